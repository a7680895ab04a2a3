def hOut (G : zG) (R : Nat → Nat → Option Nat) (K : Nat → Nat × Nat) (n : Nat) (o : Nat) : Prop := sA G K n o 35 1
theorem Out_0 {G : zG} {R : Nat → Nat → Option Nat} {K : Nat → Nat × Nat} {n o : Nat} (S : hOut G R K n o) : sA G K n o 35 1 := S
theorem zCF.mono {G : zG} {d kc ks : Nat} {vs : List Value} {h : zH} {Q Q' : Option Value → zH → Prop} (hC : zCF G d kc ks vs h Q) (hQ : ∀ r h', Q r h' → Q' r h') : zCF G d kc ks vs h Q' := by
  intro l hfl
  have h1 := hC l hfl
  unfold Met at h1 ⊢
  exact MetFree.mono h1 (fun _ _ q => q) (fun _ _ _ _ _ q => q) (fun a s o t _ q => ⟨⟨by obtain ⟨r, h', e1, e2, e3⟩ := q.1.1; exact ⟨r, h', e1, hQ r h' e2, e3⟩, q.1.2⟩, q.2⟩)
def mL_law : zM := (yL_law, cL_law, 7, some .boolean)
theorem zw_cw : Cond.codeWith yL_farm cL_farm 5 (some .int) zHH ∈ lw_tbl := zT5 _ (List.mem_of_getElem? (i := 197) rfl)
theorem zw_sf : Cond.static yL_farm ∈ lw_tbl := zT5 _ (List.mem_of_getElem? (i := 196) rfl)
theorem zw_il : Cond.initialized RL ∈ lw_tbl := zT1 _ (List.mem_of_getElem? (i := 0) rfl)
theorem zCallF {G : zG} {d kc ks pc : Nat} {M : zM} {ls : List (Nat × Value)} {h : zH} {Q : Option Value → zH → Prop} (idx mc ms kc' ks' pc' : Nat) (As rest : List Value) (hw : Cond.methodLink M.1.cls idx yL_farm ∈ lw_tbl) (hd : decode M.2.1 pc = .ok (.invokestatic idx, 3)) (hn : pc + 3 = pc') (hAs : As.length = 4) (hrest : (rest.map fun v => v.category).sum ≤ 8) (hkc : kc' + mc = kc) (hks : ks' + ms = ks) (K : zCF G d mc ms As h (fun r h' => zV G (d + 1) M kc' ks' pc' ls (r.toList ++ rest) h' Q)) : zV G (d + 1) M kc ks pc ls (As.reverse ++ rest) h Q := by
  subst hn
  intro p l e R s m args below meth c H locs cells slots la X hA hS hc hs hl
  have h1 := X.2.2.2.2.2.2.2.2.1
  have h2 := X.2.2.2.2.2.2.2.2.2.1
  refine zAfter (rest := rest) (vx_runSW (Ts := []) ⟨X.1, X.2.1, X.2.2.1, X.2.2.2.2.2.1, fun _ q => by cases q⟩ (K l X.2.2.2.2.2.2.2.2.2.2) ⟨⟨rfl, rfl, h1, by show 8 + (5 + 11) + 64 * d ≤ R.locals; omega, fun w hw a' U hW => by rw [List.mem_singleton.mp hw]; exact (X.2.2.2.2.2.2.2.1.1.warm hW) a' _ zw_cw rfl, List.mem_cons_self⟩, X.2.2.2.2.2.2.2.1.1 _ _ zw_cw rfl, X.2.2.2.2.2.2.2.1.1 _ _ zw_il rfl, ⟨by decide, by decide⟩, fun sig hsig => ?_, X.2.2.2.2.2.2.2.1.1 _ _ hw rfl, X.2.2.2.2.2.2.2.1.1 _ _ zw_sf rfl⟩ ⟨zC.blind, fun U hU hW => ⟨rfl, X.2.2.2.2.2.2.2.1.warm hS hU hW, by rw [hU]; exact hA⟩⟩ rfl hAs hl.1 rfl (lv_room hrest) hd ⟨by omega, by omega⟩) X hS hc hs hkc hks hl
  have q : (parseMethodDescriptor yL_farm.desc).map (fun d => d.parameters.length) = some 4 := by decide +kernel
  rw [hsig] at q
  exact (Option.some.inj q).symm
set_option maxHeartbeats 20000000 in
set_option maxRecDepth 100000 in
theorem wL_law_23 {G : zG} {d kc ks : Nat} {I : Nat → Nat → Int32} {J : Nat → Nat → Int64} {R : Nat → Nat → Option Nat} {K : Nat → Nat × Nat} {n : Nat} {Q : Option Value → zH → Prop} (x v w q m t c o : Nat) (S0_ : hX G R K n x v w q) (S1_ : hMod G R K n m t c) (S2_ : hOut G R K n o) (l4 : Int32) (F : ((((nI G.2.2.2.2.2.2.1) - 6 : Int32) < l4 → Q (some (.int (1))) (I, J, R, K, n)) ∧ (¬ (((nI G.2.2.2.2.2.2.1) - 6 : Int32) < l4) → ((vp_in l4 G.2.2.2.2.2.2.1) ∧ ((((G.2.2.2.2.2.2.2 l4.toNatClampNeg) &&& 63) = 0 → ((vp_in (l4 + 1) G.2.2.2.2.2.2.1) ∧ ((vp_in (l4 + 2) G.2.2.2.2.2.2.1) ∧ ((vp_in (l4 + 3) G.2.2.2.2.2.2.1) ∧ ((vp_in (l4 + 4) G.2.2.2.2.2.2.1) ∧ ((vp_in (l4 + 5) G.2.2.2.2.2.2.1) ∧ zC G d mX11_feed 0 0 [.ref (x), .int (G.2.2.2.2.2.2.2 (l4 + 1 : Int32).toNatClampNeg), .int (G.2.2.2.2.2.2.2 (l4 + 2 : Int32).toNatClampNeg), .int (G.2.2.2.2.2.2.2 (l4 + 3 : Int32).toNatClampNeg), .int (G.2.2.2.2.2.2.2 (l4 + 4 : Int32).toNatClampNeg), .int (G.2.2.2.2.2.2.2 (l4 + 5 : Int32).toNatClampNeg)] (I, J, R, K, n) (fun r h => ∃ (x9 : Int32) (I10 : Nat → Nat → Int32), r = some (.int x9) ∧ h = (I10, J, R, K, n) ∧ ((vp_in (l4 + 1) G.2.2.2.2.2.2.1) ∧ ((vp_in (l4 + 2) G.2.2.2.2.2.2.1) ∧ ((vp_in (l4 + 3) G.2.2.2.2.2.2.1) ∧ ((vp_in (l4 + 4) G.2.2.2.2.2.2.1) ∧ ((vp_in (l4 + 5) G.2.2.2.2.2.2.1) ∧ zC G d mX12_feed 0 0 [.ref (m), .int (G.2.2.2.2.2.2.2 (l4 + 1 : Int32).toNatClampNeg), .int (G.2.2.2.2.2.2.2 (l4 + 2 : Int32).toNatClampNeg), .int (G.2.2.2.2.2.2.2 (l4 + 3 : Int32).toNatClampNeg), .int (G.2.2.2.2.2.2.2 (l4 + 4 : Int32).toNatClampNeg), .int (G.2.2.2.2.2.2.2 (l4 + 5 : Int32).toNatClampNeg)] (I10, J, R, K, n) (fun r h => ∃ (x16 : Int32) (I17 : Nat → Nat → Int32), r = some (.int x16) ∧ h = (I17, J, R, K, n) ∧ ((x9 = x16 → zV G (d + 1) mL_law (kc + 4) (ks + 300) 23 [(0, .ref (G.2.2.2.2.2.1 3)), (1, .ref (x)), (2, .ref (m)), (3, .ref (o)), (4, .int (l4 + 6))] [] (I17, J, R, K, n) Q) ∧ (¬ (x9 = x16) → Q (some (.int (0))) (I17, J, R, K, n)))))))))))))))) ∧ (((G.2.2.2.2.2.2.2 l4.toNatClampNeg) &&& 63) = 1 → ((vp_in (l4 + 1) G.2.2.2.2.2.2.1) ∧ zC G d mX11_end 0 0 [.ref (x), .int (G.2.2.2.2.2.2.2 (l4 + 1 : Int32).toNatClampNeg)] (I, J, R, K, n) (fun r h => ∃ (x21 : Int32) (I22 : Nat → Nat → Int32), r = some (.int x21) ∧ h = (I22, J, R, K, n) ∧ ((vp_in (l4 + 1) G.2.2.2.2.2.2.1) ∧ zC G d mX12_end 0 0 [.ref (m), .int (G.2.2.2.2.2.2.2 (l4 + 1 : Int32).toNatClampNeg)] (I22, J, R, K, n) (fun r h => ∃ (x24 : Int32) (I25 : Nat → Nat → Int32), r = some (.int x24) ∧ h = (I25, J, R, K, n) ∧ ((x21 = x24 → zV G (d + 1) mL_law (kc + 4) (ks + 300) 23 [(0, .ref (G.2.2.2.2.2.1 3)), (1, .ref (x)), (2, .ref (m)), (3, .ref (o)), (4, .int (l4 + 6))] [] (I25, J, R, K, n) Q) ∧ (¬ (x21 = x24) → Q (some (.int (0))) (I25, J, R, K, n)))))))) ∧ (((G.2.2.2.2.2.2.2 l4.toNatClampNeg) &&& 63) = 2 → ((vp_in (l4 + 1) G.2.2.2.2.2.2.1) ∧ zC G d mX11_fault 0 0 [.ref (x), .int (G.2.2.2.2.2.2.2 (l4 + 1 : Int32).toNatClampNeg)] (I, J, R, K, n) (fun r h => ∃ (x29 : Int32) (I30 : Nat → Nat → Int32) (R31 : Nat → Nat → Option Nat), r = some (.int x29) ∧ h = (I30, J, R31, K, n) ∧ ∃ u32 u33 u34 : Nat, hX G R31 K n x u32 u33 u34 ∧ ∃ u36 u37 : Nat, hMod G R31 K n m u36 u37 ∧ hOut G R31 K n o ∧ ((vp_in (l4 + 1) G.2.2.2.2.2.2.1) ∧ zC G d mX12_fault 0 0 [.ref (m), .int (G.2.2.2.2.2.2.2 (l4 + 1 : Int32).toNatClampNeg)] (I30, J, R31, K, n) (fun r h => ∃ (x41 : Int32) (I42 : Nat → Nat → Int32) (J43 : Nat → Nat → Int64) (R44 : Nat → Nat → Option Nat), r = some (.int x41) ∧ h = (I42, J43, R44, K, n) ∧ ∃ u45 u46 u47 : Nat, hX G R44 K n x u45 u46 u47 ∧ ∃ u49 u50 : Nat, hMod G R44 K n m u49 u50 ∧ hOut G R44 K n o ∧ ((x29 = x41 → zV G (d + 1) mL_law (kc + 4) (ks + 300) 23 [(0, .ref (G.2.2.2.2.2.1 3)), (1, .ref (x)), (2, .ref (m)), (3, .ref (o)), (4, .int (l4 + 6))] [] (I42, J43, R44, K, n) Q) ∧ (¬ (x29 = x41) → Q (some (.int (0))) (I42, J43, R44, K, n)))))))) ∧ (((G.2.2.2.2.2.2.2 l4.toNatClampNeg) &&& 63) = 3 → ((vp_in (l4 + 1) G.2.2.2.2.2.2.1) ∧ zC G d mX11_text 4 300 [.ref (x), .int (G.2.2.2.2.2.2.2 (l4 + 1 : Int32).toNatClampNeg)] (I, J, R, K, n) (fun r h => ∃ (x56 : Int32) (I57 : Nat → Nat → Int32) (R58 : Nat → Nat → Option Nat) (K59 : Nat → Nat × Nat) (n60 : Nat), r = some (.int x56) ∧ h = (I57, J, R58, K59, n60) ∧ ∃ u61 u62 u63 : Nat, hX G R58 K59 n60 x u61 u62 u63 ∧ ∃ u65 u66 : Nat, hMod G R58 K59 n60 m u65 u66 ∧ hOut G R58 K59 n60 o ∧ ((vp_in (l4 + 1) G.2.2.2.2.2.2.1) ∧ zC G d mX12_text 0 0 [.ref (m), .int (G.2.2.2.2.2.2.2 (l4 + 1 : Int32).toNatClampNeg)] (I57, J, R58, K59, n60) (fun r h => ∃ (x70 : Int32) (I71 : Nat → Nat → Int32) (J72 : Nat → Nat → Int64) (R73 : Nat → Nat → Option Nat), r = some (.int x70) ∧ h = (I71, J72, R73, K59, n60) ∧ ∃ u74 u75 u76 : Nat, hX G R73 K59 n60 x u74 u75 u76 ∧ ∃ u78 u79 : Nat, hMod G R73 K59 n60 m u78 u79 ∧ hOut G R73 K59 n60 o ∧ ((x56 = x70 → zV G (d + 1) mL_law kc ks 23 [(0, .ref (G.2.2.2.2.2.1 3)), (1, .ref (x)), (2, .ref (m)), (3, .ref (o)), (4, .int (l4 + 6))] [] (I71, J72, R73, K59, n60) Q) ∧ (¬ (x56 = x70) → Q (some (.int (0))) (I71, J72, R73, K59, n60)))))))) ∧ (((G.2.2.2.2.2.2.2 l4.toNatClampNeg) &&& 63) = 4 → ((vp_in (l4 + 1) G.2.2.2.2.2.2.1) ∧ ((vp_in (l4 + 2) G.2.2.2.2.2.2.1) ∧ zCF G d 1 6 [.ref (x), .int (G.2.2.2.2.2.2.2 (l4 + 1 : Int32).toNatClampNeg), .int (G.2.2.2.2.2.2.2 (l4 + 2 : Int32).toNatClampNeg), .ref (o)] (I, J, R, K, n) (fun r h => ∃ (x86 : Int32) (I87 : Nat → Nat → Int32) (J88 : Nat → Nat → Int64) (K89 : Nat → Nat × Nat) (n90 : Nat), r = some (.int x86) ∧ h = (I87, J88, R, K89, n90) ∧ ∃ u91 u92 u93 : Nat, hX G R K89 n90 x u91 u92 u93 ∧ ∃ u95 u96 : Nat, hMod G R K89 n90 m u95 u96 ∧ hOut G R K89 n90 o ∧ ((vp_in (l4 + 1) G.2.2.2.2.2.2.1) ∧ ((vp_in (l4 + 2) G.2.2.2.2.2.2.1) ∧ zC G d mX12_farm 0 0 [.ref (m), .int (G.2.2.2.2.2.2.2 (l4 + 1 : Int32).toNatClampNeg), .int (G.2.2.2.2.2.2.2 (l4 + 2 : Int32).toNatClampNeg)] (I87, J88, R, K89, n90) (fun r h => ∃ (x101 : Int32) (I102 : Nat → Nat → Int32), r = some (.int x101) ∧ h = (I102, J88, R, K89, n90) ∧ zC G d mX12_thrown 0 0 [.ref (m)] (I102, J88, R, K89, n90) (fun r h => ∃ (x103 : Int32) (I104 : Nat → Nat → Int32), r = some (.int x103) ∧ h = (I104, J88, R, K89, n90) ∧ ((x103 = x86 → ((x86 = 0 → ((vp_in 0 1) ∧ (((lg_cmp (J88 o (0 : Int32).toNatClampNeg) x101.toInt64 : Int32) = 0 → zV G (d + 1) mL_law (kc + 3) (ks + 294) 23 [(0, .ref (G.2.2.2.2.2.1 3)), (1, .ref (x)), (2, .ref (m)), (3, .ref (o)), (4, .int (l4 + 6))] [] (I104, J88, R, K89, n90) Q) ∧ (¬ ((lg_cmp (J88 o (0 : Int32).toNatClampNeg) x101.toInt64 : Int32) = 0) → Q (some (.int (0))) (I104, J88, R, K89, n90))))) ∧ (¬ (x86 = 0) → zV G (d + 1) mL_law (kc + 3) (ks + 294) 23 [(0, .ref (G.2.2.2.2.2.1 3)), (1, .ref (x)), (2, .ref (m)), (3, .ref (o)), (4, .int (l4 + 6))] [] (I104, J88, R, K89, n90) Q))) ∧ (¬ (x103 = x86) → Q (some (.int (0))) (I104, J88, R, K89, n90))))))))))) ∧ (((G.2.2.2.2.2.2.2 l4.toNatClampNeg) &&& 63) = 5 → ((vp_in (l4 + 1) G.2.2.2.2.2.2.1) ∧ ((vp_in (l4 + 2) G.2.2.2.2.2.2.1) ∧ zC G d mX11_wrong 0 0 [.ref (x), .int (G.2.2.2.2.2.2.2 (l4 + 1 : Int32).toNatClampNeg), .int (G.2.2.2.2.2.2.2 (l4 + 2 : Int32).toNatClampNeg)] (I, J, R, K, n) (fun r h => ∃ (x112 : Int32) (I113 : Nat → Nat → Int32), r = some (.int x112) ∧ h = (I113, J, R, K, n) ∧ ((vp_in (l4 + 1) G.2.2.2.2.2.2.1) ∧ ((vp_in (l4 + 2) G.2.2.2.2.2.2.1) ∧ zC G d mX12_wrong 0 0 [.ref (m), .int (G.2.2.2.2.2.2.2 (l4 + 1 : Int32).toNatClampNeg), .int (G.2.2.2.2.2.2.2 (l4 + 2 : Int32).toNatClampNeg)] (I113, J, R, K, n) (fun r h => ∃ (x116 : Int32) (I117 : Nat → Nat → Int32) (J118 : Nat → Nat → Int64) (R119 : Nat → Nat → Option Nat), r = some (.int x116) ∧ h = (I117, J118, R119, K, n) ∧ ∃ u120 u121 u122 : Nat, hX G R119 K n x u120 u121 u122 ∧ ∃ u124 u125 : Nat, hMod G R119 K n m u124 u125 ∧ hOut G R119 K n o ∧ ((x112 = x116 → zV G (d + 1) mL_law (kc + 4) (ks + 300) 23 [(0, .ref (G.2.2.2.2.2.1 3)), (1, .ref (x)), (2, .ref (m)), (3, .ref (o)), (4, .int (l4 + 6))] [] (I117, J118, R119, K, n) Q) ∧ (¬ (x112 = x116) → Q (some (.int (0))) (I117, J118, R119, K, n)))))))))) ∧ (((G.2.2.2.2.2.2.2 l4.toNatClampNeg) &&& 63) = 6 → ((vp_in (l4 + 1) G.2.2.2.2.2.2.1) ∧ zC G d mX11_law 0 0 [.ref (x), .int (G.2.2.2.2.2.2.2 (l4 + 1 : Int32).toNatClampNeg)] (I, J, R, K, n) (fun r h => ∃ (x131 : Int32) (I132 : Nat → Nat → Int32) (R133 : Nat → Nat → Option Nat), r = some (.int x131) ∧ h = (I132, J, R133, K, n) ∧ ∃ u134 u135 u136 : Nat, hX G R133 K n x u134 u135 u136 ∧ ∃ u138 u139 : Nat, hMod G R133 K n m u138 u139 ∧ hOut G R133 K n o ∧ ((vp_in (l4 + 1) G.2.2.2.2.2.2.1) ∧ zC G d mX12_law 0 0 [.ref (m), .int (G.2.2.2.2.2.2.2 (l4 + 1 : Int32).toNatClampNeg)] (I132, J, R133, K, n) (fun r h => ∃ (x143 : Int32) (I144 : Nat → Nat → Int32), r = some (.int x143) ∧ h = (I144, J, R133, K, n) ∧ ((x131 = x143 → zV G (d + 1) mL_law (kc + 4) (ks + 300) 23 [(0, .ref (G.2.2.2.2.2.1 3)), (1, .ref (x)), (2, .ref (m)), (3, .ref (o)), (4, .int (l4 + 6))] [] (I144, J, R133, K, n) Q) ∧ (¬ (x131 = x143) → Q (some (.int (0))) (I144, J, R133, K, n)))))))) ∧ (((G.2.2.2.2.2.2.2 l4.toNatClampNeg) &&& 63) = 7 → ((vp_in (l4 + 1) G.2.2.2.2.2.2.1) ∧ zC G d mX11_apples 0 0 [.ref (x), .int (G.2.2.2.2.2.2.2 (l4 + 1 : Int32).toNatClampNeg)] (I, J, R, K, n) (fun r h => ∃ (x148 : Int32) (I149 : Nat → Nat → Int32), r = some (.int x148) ∧ h = (I149, J, R, K, n) ∧ ((vp_in (l4 + 1) G.2.2.2.2.2.2.1) ∧ zC G d mX12_apples 0 0 [.ref (m), .int (G.2.2.2.2.2.2.2 (l4 + 1 : Int32).toNatClampNeg)] (I149, J, R, K, n) (fun r h => ∃ (x151 : Int32) (I152 : Nat → Nat → Int32), r = some (.int x151) ∧ h = (I152, J, R, K, n) ∧ ((x148 = x151 → zV G (d + 1) mL_law (kc + 4) (ks + 300) 23 [(0, .ref (G.2.2.2.2.2.1 3)), (1, .ref (x)), (2, .ref (m)), (3, .ref (o)), (4, .int (l4 + 6))] [] (I152, J, R, K, n) Q) ∧ (¬ (x148 = x151) → Q (some (.int (0))) (I152, J, R, K, n)))))))) ∧ (((G.2.2.2.2.2.2.2 l4.toNatClampNeg) &&& 63) = 8 → ((vp_in (l4 + 1) G.2.2.2.2.2.2.1) ∧ zC G d mX11_forgive 0 0 [.ref (x), .int (G.2.2.2.2.2.2.2 (l4 + 1 : Int32).toNatClampNeg)] (I, J, R, K, n) (fun r h => ∃ (x156 : Int32) (I157 : Nat → Nat → Int32), r = some (.int x156) ∧ h = (I157, J, R, K, n) ∧ ((vp_in (l4 + 1) G.2.2.2.2.2.2.1) ∧ zC G d mX12_forgive 0 0 [.ref (m), .int (G.2.2.2.2.2.2.2 (l4 + 1 : Int32).toNatClampNeg)] (I157, J, R, K, n) (fun r h => ∃ (x159 : Int32) (I160 : Nat → Nat → Int32) (J161 : Nat → Nat → Int64) (R162 : Nat → Nat → Option Nat), r = some (.int x159) ∧ h = (I160, J161, R162, K, n) ∧ ∃ u163 u164 u165 : Nat, hX G R162 K n x u163 u164 u165 ∧ ∃ u167 u168 : Nat, hMod G R162 K n m u167 u168 ∧ hOut G R162 K n o ∧ ((x156 = x159 → zV G (d + 1) mL_law (kc + 4) (ks + 300) 23 [(0, .ref (G.2.2.2.2.2.1 3)), (1, .ref (x)), (2, .ref (m)), (3, .ref (o)), (4, .int (l4 + 6))] [] (I160, J161, R162, K, n) Q) ∧ (¬ (x156 = x159) → Q (some (.int (0))) (I160, J161, R162, K, n)))))))) ∧ (((G.2.2.2.2.2.2.2 l4.toNatClampNeg) &&& 63) = 9 → ((vp_in (l4 + 1) G.2.2.2.2.2.2.1) ∧ ((vp_in (l4 + 2) G.2.2.2.2.2.2.1) ∧ zC G d mX11_paint 0 0 [.ref (x), .int (G.2.2.2.2.2.2.2 (l4 + 1 : Int32).toNatClampNeg), .int (G.2.2.2.2.2.2.2 (l4 + 2 : Int32).toNatClampNeg)] (I, J, R, K, n) (fun r h => ∃ (x175 : Int32) (I176 : Nat → Nat → Int32), r = some (.int x175) ∧ h = (I176, J, R, K, n) ∧ ((vp_in (l4 + 1) G.2.2.2.2.2.2.1) ∧ ((vp_in (l4 + 2) G.2.2.2.2.2.2.1) ∧ zC G d mX12_paint 0 0 [.ref (m), .int (G.2.2.2.2.2.2.2 (l4 + 1 : Int32).toNatClampNeg), .int (G.2.2.2.2.2.2.2 (l4 + 2 : Int32).toNatClampNeg)] (I176, J, R, K, n) (fun r h => ∃ (x179 : Int32) (I180 : Nat → Nat → Int32), r = some (.int x179) ∧ h = (I180, J, R, K, n) ∧ ((x175 = x179 → zV G (d + 1) mL_law (kc + 4) (ks + 300) 23 [(0, .ref (G.2.2.2.2.2.1 3)), (1, .ref (x)), (2, .ref (m)), (3, .ref (o)), (4, .int (l4 + 6))] [] (I180, J, R, K, n) Q) ∧ (¬ (x175 = x179) → Q (some (.int (0))) (I180, J, R, K, n)))))))))) ∧ (((G.2.2.2.2.2.2.2 l4.toNatClampNeg) &&& 63) = 10 → ((vp_in (l4 + 1) G.2.2.2.2.2.2.1) ∧ zC G d mX11_inspect 0 0 [.ref (x), .int (G.2.2.2.2.2.2.2 (l4 + 1 : Int32).toNatClampNeg)] (I, J, R, K, n) (fun r h => ∃ (x184 : Int32) (I185 : Nat → Nat → Int32), r = some (.int x184) ∧ h = (I185, J, R, K, n) ∧ ((vp_in (l4 + 1) G.2.2.2.2.2.2.1) ∧ zC G d mX12_inspect 0 0 [.ref (m), .int (G.2.2.2.2.2.2.2 (l4 + 1 : Int32).toNatClampNeg)] (I185, J, R, K, n) (fun r h => ∃ (x187 : Int32) (I188 : Nat → Nat → Int32), r = some (.int x187) ∧ h = (I188, J, R, K, n) ∧ ((x184 = x187 → zV G (d + 1) mL_law (kc + 4) (ks + 300) 23 [(0, .ref (G.2.2.2.2.2.1 3)), (1, .ref (x)), (2, .ref (m)), (3, .ref (o)), (4, .int (l4 + 6))] [] (I188, J, R, K, n) Q) ∧ (¬ (x184 = x187) → Q (some (.int (0))) (I188, J, R, K, n)))))))) ∧ (((G.2.2.2.2.2.2.2 l4.toNatClampNeg) &&& 63) = 11 → ((vp_in (l4 + 1) G.2.2.2.2.2.2.1) ∧ ((vp_in (l4 + 2) G.2.2.2.2.2.2.1) ∧ ((vp_in (l4 + 3) G.2.2.2.2.2.2.1) ∧ zC G d mX11_sin 0 0 [.ref (x), .int (G.2.2.2.2.2.2.2 (l4 + 1 : Int32).toNatClampNeg), .int (G.2.2.2.2.2.2.2 (l4 + 2 : Int32).toNatClampNeg), .int (G.2.2.2.2.2.2.2 (l4 + 3 : Int32).toNatClampNeg)] (I, J, R, K, n) (fun r h => ∃ (x194 : Int32) (I195 : Nat → Nat → Int32), r = some (.int x194) ∧ h = (I195, J, R, K, n) ∧ ((vp_in (l4 + 1) G.2.2.2.2.2.2.1) ∧ ((vp_in (l4 + 2) G.2.2.2.2.2.2.1) ∧ ((vp_in (l4 + 3) G.2.2.2.2.2.2.1) ∧ zC G d mX12_sin 0 0 [.ref (m), .int (G.2.2.2.2.2.2.2 (l4 + 1 : Int32).toNatClampNeg), .int (G.2.2.2.2.2.2.2 (l4 + 2 : Int32).toNatClampNeg), .int (G.2.2.2.2.2.2.2 (l4 + 3 : Int32).toNatClampNeg)] (I195, J, R, K, n) (fun r h => ∃ (x199 : Int32) (I200 : Nat → Nat → Int32), r = some (.int x199) ∧ h = (I200, J, R, K, n) ∧ ((x194 = x199 → zV G (d + 1) mL_law (kc + 4) (ks + 300) 23 [(0, .ref (G.2.2.2.2.2.1 3)), (1, .ref (x)), (2, .ref (m)), (3, .ref (o)), (4, .int (l4 + 6))] [] (I200, J, R, K, n) Q) ∧ (¬ (x194 = x199) → Q (some (.int (0))) (I200, J, R, K, n)))))))))))) ∧ (((G.2.2.2.2.2.2.2 l4.toNatClampNeg) &&& 63) = 12 → ((vp_in (l4 + 1) G.2.2.2.2.2.2.1) ∧ zC G d mX11_buy 0 0 [.ref (x), .int (G.2.2.2.2.2.2.2 (l4 + 1 : Int32).toNatClampNeg)] (I, J, R, K, n) (fun r h => ∃ (x204 : Int32) (I205 : Nat → Nat → Int32), r = some (.int x204) ∧ h = (I205, J, R, K, n) ∧ ((vp_in (l4 + 1) G.2.2.2.2.2.2.1) ∧ zC G d mX12_buy 0 0 [.ref (m), .int (G.2.2.2.2.2.2.2 (l4 + 1 : Int32).toNatClampNeg)] (I205, J, R, K, n) (fun r h => ∃ (x207 : Int32) (I208 : Nat → Nat → Int32), r = some (.int x207) ∧ h = (I208, J, R, K, n) ∧ ((x204 = x207 → zV G (d + 1) mL_law (kc + 4) (ks + 300) 23 [(0, .ref (G.2.2.2.2.2.1 3)), (1, .ref (x)), (2, .ref (m)), (3, .ref (o)), (4, .int (l4 + 6))] [] (I208, J, R, K, n) Q) ∧ (¬ (x204 = x207) → Q (some (.int (0))) (I208, J, R, K, n)))))))) ∧ (((G.2.2.2.2.2.2.2 l4.toNatClampNeg) &&& 63) = 13 → ((vp_in (l4 + 1) G.2.2.2.2.2.2.1) ∧ zC G d mX11_give 0 0 [.ref (x), .int (G.2.2.2.2.2.2.2 (l4 + 1 : Int32).toNatClampNeg)] (I, J, R, K, n) (fun r h => ∃ (x212 : Int32) (I213 : Nat → Nat → Int32), r = some (.int x212) ∧ h = (I213, J, R, K, n) ∧ ((vp_in (l4 + 1) G.2.2.2.2.2.2.1) ∧ zC G d mX12_give 0 0 [.ref (m), .int (G.2.2.2.2.2.2.2 (l4 + 1 : Int32).toNatClampNeg)] (I213, J, R, K, n) (fun r h => ∃ (x215 : Int32) (I216 : Nat → Nat → Int32), r = some (.int x215) ∧ h = (I216, J, R, K, n) ∧ ((x212 = x215 → zV G (d + 1) mL_law (kc + 4) (ks + 300) 23 [(0, .ref (G.2.2.2.2.2.1 3)), (1, .ref (x)), (2, .ref (m)), (3, .ref (o)), (4, .int (l4 + 6))] [] (I216, J, R, K, n) Q) ∧ (¬ (x212 = x215) → Q (some (.int (0))) (I216, J, R, K, n)))))))) ∧ (((G.2.2.2.2.2.2.2 l4.toNatClampNeg) &&& 63) = 14 → zC G d mX11_day 0 0 [.ref (x)] (I, J, R, K, n) (fun r h => ∃ (x219 : Int32) (I220 : Nat → Nat → Int32), r = some (.int x219) ∧ h = (I220, J, R, K, n) ∧ zC G d mX12_day 0 0 [.ref (m)] (I220, J, R, K, n) (fun r h => ∃ (x221 : Int32) (I222 : Nat → Nat → Int32), r = some (.int x221) ∧ h = (I222, J, R, K, n) ∧ ((x219 = x221 → zV G (d + 1) mL_law (kc + 4) (ks + 300) 23 [(0, .ref (G.2.2.2.2.2.1 3)), (1, .ref (x)), (2, .ref (m)), (3, .ref (o)), (4, .int (l4 + 6))] [] (I222, J, R, K, n) Q) ∧ (¬ (x219 = x221) → Q (some (.int (0))) (I222, J, R, K, n)))))) ∧ (((G.2.2.2.2.2.2.2 l4.toNatClampNeg) &&& 63) = 15 → ((vp_in (l4 + 1) G.2.2.2.2.2.2.1) ∧ ((vp_in (l4 + 2) G.2.2.2.2.2.2.1) ∧ ((vp_in (l4 + 3) G.2.2.2.2.2.2.1) ∧ zC G d mX11_years 0 0 [.ref (x), .int (G.2.2.2.2.2.2.2 (l4 + 1 : Int32).toNatClampNeg), .long ((((G.2.2.2.2.2.2.2 (l4 + 2 : Int32).toNatClampNeg : Int32).toInt64 : Int64) <<< ((32 : Int32).toInt64 &&& 63)) ||| (((G.2.2.2.2.2.2.2 (l4 + 3 : Int32).toNatClampNeg : Int32).toInt64) &&& 4294967295))] (I, J, R, K, n) (fun r h => ∃ (x228 : Int32) (I229 : Nat → Nat → Int32) (J230 : Nat → Nat → Int64), r = some (.int x228) ∧ h = (I229, J230, R, K, n) ∧ ((vp_in (l4 + 1) G.2.2.2.2.2.2.1) ∧ ((vp_in (l4 + 2) G.2.2.2.2.2.2.1) ∧ ((vp_in (l4 + 3) G.2.2.2.2.2.2.1) ∧ zC G d mX12_years 0 0 [.ref (m), .int (G.2.2.2.2.2.2.2 (l4 + 1 : Int32).toNatClampNeg), .long ((((G.2.2.2.2.2.2.2 (l4 + 2 : Int32).toNatClampNeg : Int32).toInt64 : Int64) <<< ((32 : Int32).toInt64 &&& 63)) ||| (((G.2.2.2.2.2.2.2 (l4 + 3 : Int32).toNatClampNeg : Int32).toInt64) &&& 4294967295))] (I229, J230, R, K, n) (fun r h => ∃ (x234 : Int32) (I235 : Nat → Nat → Int32) (J236 : Nat → Nat → Int64) (R237 : Nat → Nat → Option Nat), r = some (.int x234) ∧ h = (I235, J236, R237, K, n) ∧ ∃ u238 u239 u240 : Nat, hX G R237 K n x u238 u239 u240 ∧ ∃ u242 u243 : Nat, hMod G R237 K n m u242 u243 ∧ hOut G R237 K n o ∧ ((x228 = x234 → zV G (d + 1) mL_law (kc + 4) (ks + 300) 23 [(0, .ref (G.2.2.2.2.2.1 3)), (1, .ref (x)), (2, .ref (m)), (3, .ref (o)), (4, .int (l4 + 6))] [] (I235, J236, R237, K, n) Q) ∧ (¬ (x228 = x234) → Q (some (.int (0))) (I235, J236, R237, K, n)))))))))))) ∧ (((G.2.2.2.2.2.2.2 l4.toNatClampNeg) &&& 63) = 16 → zC G d mX11_undo 0 0 [.ref (x)] (I, J, R, K, n) (fun r h => ∃ (x248 : Int32) (I249 : Nat → Nat → Int32), r = some (.int x248) ∧ h = (I249, J, R, K, n) ∧ zC G d mX12_undo 0 0 [.ref (m)] (I249, J, R, K, n) (fun r h => ∃ (x250 : Int32) (I251 : Nat → Nat → Int32), r = some (.int x250) ∧ h = (I251, J, R, K, n) ∧ ((x248 = x250 → zV G (d + 1) mL_law (kc + 4) (ks + 300) 23 [(0, .ref (G.2.2.2.2.2.1 3)), (1, .ref (x)), (2, .ref (m)), (3, .ref (o)), (4, .int (l4 + 6))] [] (I251, J, R, K, n) Q) ∧ (¬ (x248 = x250) → Q (some (.int (0))) (I251, J, R, K, n)))))) ∧ (((G.2.2.2.2.2.2.2 l4.toNatClampNeg) &&& 63) = 17 → ((vp_in (l4 + 1) G.2.2.2.2.2.2.1) ∧ ((vp_in (l4 + 2) G.2.2.2.2.2.2.1) ∧ zC G d mX11_log 0 0 [.ref (x), .int (G.2.2.2.2.2.2.2 (l4 + 1 : Int32).toNatClampNeg), .int (G.2.2.2.2.2.2.2 (l4 + 2 : Int32).toNatClampNeg)] (I, J, R, K, n) (fun r h => ∃ (x256 : Int32) (I257 : Nat → Nat → Int32), r = some (.int x256) ∧ h = (I257, J, R, K, n) ∧ ((vp_in (l4 + 1) G.2.2.2.2.2.2.1) ∧ ((vp_in (l4 + 2) G.2.2.2.2.2.2.1) ∧ zC G d mX12_log 0 0 [.ref (m), .int (G.2.2.2.2.2.2.2 (l4 + 1 : Int32).toNatClampNeg), .int (G.2.2.2.2.2.2.2 (l4 + 2 : Int32).toNatClampNeg)] (I257, J, R, K, n) (fun r h => ∃ (x260 : Int32) (I261 : Nat → Nat → Int32), r = some (.int x260) ∧ h = (I261, J, R, K, n) ∧ ((x256 = x260 → zV G (d + 1) mL_law (kc + 4) (ks + 300) 23 [(0, .ref (G.2.2.2.2.2.1 3)), (1, .ref (x)), (2, .ref (m)), (3, .ref (o)), (4, .int (l4 + 6))] [] (I261, J, R, K, n) Q) ∧ (¬ (x256 = x260) → Q (some (.int (0))) (I261, J, R, K, n)))))))))) ∧ (((G.2.2.2.2.2.2.2 l4.toNatClampNeg) &&& 63) = 18 → ((vp_in (l4 + 1) G.2.2.2.2.2.2.1) ∧ ((vp_in (l4 + 2) G.2.2.2.2.2.2.1) ∧ ((vp_in (l4 + 3) G.2.2.2.2.2.2.1) ∧ zC G d mX11_step 0 0 [.ref (x), .int (G.2.2.2.2.2.2.2 (l4 + 1 : Int32).toNatClampNeg), .int (G.2.2.2.2.2.2.2 (l4 + 2 : Int32).toNatClampNeg), .int (G.2.2.2.2.2.2.2 (l4 + 3 : Int32).toNatClampNeg)] (I, J, R, K, n) (fun r h => ∃ (x267 : Int32) (I268 : Nat → Nat → Int32), r = some (.int x267) ∧ h = (I268, J, R, K, n) ∧ ((vp_in (l4 + 1) G.2.2.2.2.2.2.1) ∧ ((vp_in (l4 + 2) G.2.2.2.2.2.2.1) ∧ ((vp_in (l4 + 3) G.2.2.2.2.2.2.1) ∧ zC G d mX12_step 0 0 [.ref (m), .int (G.2.2.2.2.2.2.2 (l4 + 1 : Int32).toNatClampNeg), .int (G.2.2.2.2.2.2.2 (l4 + 2 : Int32).toNatClampNeg), .int (G.2.2.2.2.2.2.2 (l4 + 3 : Int32).toNatClampNeg)] (I268, J, R, K, n) (fun r h => ∃ (x272 : Int32) (I273 : Nat → Nat → Int32), r = some (.int x272) ∧ h = (I273, J, R, K, n) ∧ ((x267 = x272 → zV G (d + 1) mL_law (kc + 4) (ks + 300) 23 [(0, .ref (G.2.2.2.2.2.1 3)), (1, .ref (x)), (2, .ref (m)), (3, .ref (o)), (4, .int (l4 + 6))] [] (I273, J, R, K, n) Q) ∧ (¬ (x267 = x272) → Q (some (.int (0))) (I273, J, R, K, n)))))))))))) ∧ (((G.2.2.2.2.2.2.2 l4.toNatClampNeg) &&& 63) = 19 → ((vp_in (l4 + 1) G.2.2.2.2.2.2.1) ∧ ((vp_in (l4 + 2) G.2.2.2.2.2.2.1) ∧ zC G d mX11_run 0 0 [.ref (x), .int (G.2.2.2.2.2.2.2 (l4 + 1 : Int32).toNatClampNeg), .int (G.2.2.2.2.2.2.2 (l4 + 2 : Int32).toNatClampNeg)] (I, J, R, K, n) (fun r h => ∃ (x278 : Int32) (I279 : Nat → Nat → Int32), r = some (.int x278) ∧ h = (I279, J, R, K, n) ∧ ((vp_in (l4 + 1) G.2.2.2.2.2.2.1) ∧ ((vp_in (l4 + 2) G.2.2.2.2.2.2.1) ∧ zC G d mX12_run 0 0 [.ref (m), .int (G.2.2.2.2.2.2.2 (l4 + 1 : Int32).toNatClampNeg), .int (G.2.2.2.2.2.2.2 (l4 + 2 : Int32).toNatClampNeg)] (I279, J, R, K, n) (fun r h => ∃ (x282 : Int32) (I283 : Nat → Nat → Int32) (J284 : Nat → Nat → Int64) (R285 : Nat → Nat → Option Nat), r = some (.int x282) ∧ h = (I283, J284, R285, K, n) ∧ ∃ u286 u287 u288 : Nat, hX G R285 K n x u286 u287 u288 ∧ ∃ u290 u291 : Nat, hMod G R285 K n m u290 u291 ∧ hOut G R285 K n o ∧ ((x278 = x282 → zV G (d + 1) mL_law (kc + 4) (ks + 300) 23 [(0, .ref (G.2.2.2.2.2.1 3)), (1, .ref (x)), (2, .ref (m)), (3, .ref (o)), (4, .int (l4 + 6))] [] (I283, J284, R285, K, n) Q) ∧ (¬ (x278 = x282) → Q (some (.int (0))) (I283, J284, R285, K, n)))))))))) ∧ (((G.2.2.2.2.2.2.2 l4.toNatClampNeg) &&& 63) = 20 → ((vp_in (l4 + 1) G.2.2.2.2.2.2.1) ∧ zC G d mX11_perform 0 0 [.ref (x), .int (G.2.2.2.2.2.2.2 (l4 + 1 : Int32).toNatClampNeg)] (I, J, R, K, n) (fun r h => ∃ (x297 : Int32) (I298 : Nat → Nat → Int32), r = some (.int x297) ∧ h = (I298, J, R, K, n) ∧ ((vp_in (l4 + 1) G.2.2.2.2.2.2.1) ∧ zC G d mX12_perform 0 0 [.ref (m), .int (G.2.2.2.2.2.2.2 (l4 + 1 : Int32).toNatClampNeg)] (I298, J, R, K, n) (fun r h => ∃ (x300 : Int32) (I301 : Nat → Nat → Int32) (J302 : Nat → Nat → Int64) (R303 : Nat → Nat → Option Nat), r = some (.int x300) ∧ h = (I301, J302, R303, K, n) ∧ ∃ u304 u305 u306 : Nat, hX G R303 K n x u304 u305 u306 ∧ ∃ u308 u309 : Nat, hMod G R303 K n m u308 u309 ∧ hOut G R303 K n o ∧ ((x297 = x300 → zV G (d + 1) mL_law (kc + 4) (ks + 300) 23 [(0, .ref (G.2.2.2.2.2.1 3)), (1, .ref (x)), (2, .ref (m)), (3, .ref (o)), (4, .int (l4 + 6))] [] (I301, J302, R303, K, n) Q) ∧ (¬ (x297 = x300) → Q (some (.int (0))) (I301, J302, R303, K, n)))))))) ∧ (((G.2.2.2.2.2.2.2 l4.toNatClampNeg) &&& 63) = 21 → ((vp_in (l4 + 1) G.2.2.2.2.2.2.1) ∧ ((vp_in (l4 + 2) G.2.2.2.2.2.2.1) ∧ zC G d mX11_least 0 0 [.ref (x), .int (G.2.2.2.2.2.2.2 (l4 + 1 : Int32).toNatClampNeg), .int (G.2.2.2.2.2.2.2 (l4 + 2 : Int32).toNatClampNeg)] (I, J, R, K, n) (fun r h => ∃ (x316 : Int32) (I317 : Nat → Nat → Int32), r = some (.int x316) ∧ h = (I317, J, R, K, n) ∧ ((vp_in (l4 + 1) G.2.2.2.2.2.2.1) ∧ ((vp_in (l4 + 2) G.2.2.2.2.2.2.1) ∧ zC G d mX12_least 0 0 [.ref (m), .int (G.2.2.2.2.2.2.2 (l4 + 1 : Int32).toNatClampNeg), .int (G.2.2.2.2.2.2.2 (l4 + 2 : Int32).toNatClampNeg)] (I317, J, R, K, n) (fun r h => ∃ (x320 : Int32) (I321 : Nat → Nat → Int32) (J322 : Nat → Nat → Int64) (R323 : Nat → Nat → Option Nat), r = some (.int x320) ∧ h = (I321, J322, R323, K, n) ∧ ∃ u324 u325 u326 : Nat, hX G R323 K n x u324 u325 u326 ∧ ∃ u328 u329 : Nat, hMod G R323 K n m u328 u329 ∧ hOut G R323 K n o ∧ ((x316 = x320 → zV G (d + 1) mL_law (kc + 4) (ks + 300) 23 [(0, .ref (G.2.2.2.2.2.1 3)), (1, .ref (x)), (2, .ref (m)), (3, .ref (o)), (4, .int (l4 + 6))] [] (I321, J322, R323, K, n) Q) ∧ (¬ (x316 = x320) → Q (some (.int (0))) (I321, J322, R323, K, n)))))))))) ∧ (((G.2.2.2.2.2.2.2 l4.toNatClampNeg) &&& 63) = 22 → ((vp_in (l4 + 1) G.2.2.2.2.2.2.1) ∧ zC G d mX11_every 0 0 [.ref (x), .int (G.2.2.2.2.2.2.2 (l4 + 1 : Int32).toNatClampNeg)] (I, J, R, K, n) (fun r h => ∃ (x335 : Int32) (I336 : Nat → Nat → Int32), r = some (.int x335) ∧ h = (I336, J, R, K, n) ∧ ((vp_in (l4 + 1) G.2.2.2.2.2.2.1) ∧ zC G d mX12_every 0 0 [.ref (m), .int (G.2.2.2.2.2.2.2 (l4 + 1 : Int32).toNatClampNeg)] (I336, J, R, K, n) (fun r h => ∃ (x338 : Int32) (I339 : Nat → Nat → Int32) (J340 : Nat → Nat → Int64) (R341 : Nat → Nat → Option Nat), r = some (.int x338) ∧ h = (I339, J340, R341, K, n) ∧ ∃ u342 u343 u344 : Nat, hX G R341 K n x u342 u343 u344 ∧ ∃ u346 u347 : Nat, hMod G R341 K n m u346 u347 ∧ hOut G R341 K n o ∧ ((x335 = x338 → zV G (d + 1) mL_law (kc + 4) (ks + 300) 23 [(0, .ref (G.2.2.2.2.2.1 3)), (1, .ref (x)), (2, .ref (m)), (3, .ref (o)), (4, .int (l4 + 6))] [] (I339, J340, R341, K, n) Q) ∧ (¬ (x335 = x338) → Q (some (.int (0))) (I339, J340, R341, K, n)))))))) ∧ (((G.2.2.2.2.2.2.2 l4.toNatClampNeg) &&& 63) = 23 → ((vp_in (l4 + 1) G.2.2.2.2.2.2.1) ∧ ((vp_in (l4 + 2) G.2.2.2.2.2.2.1) ∧ zC G d mX11_richest 0 0 [.ref (x), .int (G.2.2.2.2.2.2.2 (l4 + 1 : Int32).toNatClampNeg), .int (G.2.2.2.2.2.2.2 (l4 + 2 : Int32).toNatClampNeg)] (I, J, R, K, n) (fun r h => ∃ (x354 : Int32) (I355 : Nat → Nat → Int32), r = some (.int x354) ∧ h = (I355, J, R, K, n) ∧ ((vp_in (l4 + 1) G.2.2.2.2.2.2.1) ∧ ((vp_in (l4 + 2) G.2.2.2.2.2.2.1) ∧ zC G d mX12_richest 0 0 [.ref (m), .int (G.2.2.2.2.2.2.2 (l4 + 1 : Int32).toNatClampNeg), .int (G.2.2.2.2.2.2.2 (l4 + 2 : Int32).toNatClampNeg)] (I355, J, R, K, n) (fun r h => ∃ (x358 : Int32) (I359 : Nat → Nat → Int32) (J360 : Nat → Nat → Int64) (R361 : Nat → Nat → Option Nat), r = some (.int x358) ∧ h = (I359, J360, R361, K, n) ∧ ∃ u362 u363 u364 : Nat, hX G R361 K n x u362 u363 u364 ∧ ∃ u366 u367 : Nat, hMod G R361 K n m u366 u367 ∧ hOut G R361 K n o ∧ ((x354 = x358 → zV G (d + 1) mL_law (kc + 4) (ks + 300) 23 [(0, .ref (G.2.2.2.2.2.1 3)), (1, .ref (x)), (2, .ref (m)), (3, .ref (o)), (4, .int (l4 + 6))] [] (I359, J360, R361, K, n) Q) ∧ (¬ (x354 = x358) → Q (some (.int (0))) (I359, J360, R361, K, n)))))))))) ∧ (((G.2.2.2.2.2.2.2 l4.toNatClampNeg) &&& 63) = 24 → ((vp_in (l4 + 1) G.2.2.2.2.2.2.1) ∧ zC G d mX11_pairs 0 0 [.ref (x), .int (G.2.2.2.2.2.2.2 (l4 + 1 : Int32).toNatClampNeg)] (I, J, R, K, n) (fun r h => ∃ (x373 : Int32) (I374 : Nat → Nat → Int32), r = some (.int x373) ∧ h = (I374, J, R, K, n) ∧ ((vp_in (l4 + 1) G.2.2.2.2.2.2.1) ∧ zC G d mX12_pairs 0 0 [.ref (m), .int (G.2.2.2.2.2.2.2 (l4 + 1 : Int32).toNatClampNeg)] (I374, J, R, K, n) (fun r h => ∃ (x376 : Int32) (I377 : Nat → Nat → Int32) (J378 : Nat → Nat → Int64) (R379 : Nat → Nat → Option Nat), r = some (.int x376) ∧ h = (I377, J378, R379, K, n) ∧ ∃ u380 u381 u382 : Nat, hX G R379 K n x u380 u381 u382 ∧ ∃ u384 u385 : Nat, hMod G R379 K n m u384 u385 ∧ hOut G R379 K n o ∧ ((x373 = x376 → zV G (d + 1) mL_law (kc + 4) (ks + 300) 23 [(0, .ref (G.2.2.2.2.2.1 3)), (1, .ref (x)), (2, .ref (m)), (3, .ref (o)), (4, .int (l4 + 6))] [] (I377, J378, R379, K, n) Q) ∧ (¬ (x373 = x376) → Q (some (.int (0))) (I377, J378, R379, K, n)))))))) ∧ (((G.2.2.2.2.2.2.2 l4.toNatClampNeg) &&& 63) = 25 → ((vp_in (l4 + 1) G.2.2.2.2.2.2.1) ∧ ((vp_in (l4 + 2) G.2.2.2.2.2.2.1) ∧ ((vp_in (l4 + 3) G.2.2.2.2.2.2.1) ∧ zC G d mX11_seen 0 0 [.ref (x), .int (G.2.2.2.2.2.2.2 (l4 + 1 : Int32).toNatClampNeg), .int (G.2.2.2.2.2.2.2 (l4 + 2 : Int32).toNatClampNeg), .int ((if (G.2.2.2.2.2.2.2 (l4 + 3 : Int32).toNatClampNeg : Int32) = 0 then 0 else 1))] (I, J, R, K, n) (fun r h => ∃ (x394 : Int32) (I395 : Nat → Nat → Int32), r = some (.int x394) ∧ h = (I395, J, R, K, n) ∧ ((vp_in (l4 + 1) G.2.2.2.2.2.2.1) ∧ ((vp_in (l4 + 2) G.2.2.2.2.2.2.1) ∧ ((vp_in (l4 + 3) G.2.2.2.2.2.2.1) ∧ zC G d mX12_seen 0 0 [.ref (m), .int (G.2.2.2.2.2.2.2 (l4 + 1 : Int32).toNatClampNeg), .int (G.2.2.2.2.2.2.2 (l4 + 2 : Int32).toNatClampNeg), .int ((if (G.2.2.2.2.2.2.2 (l4 + 3 : Int32).toNatClampNeg : Int32) = 0 then 0 else 1))] (I395, J, R, K, n) (fun r h => ∃ (x400 : Int32) (I401 : Nat → Nat → Int32), r = some (.int x400) ∧ h = (I401, J, R, K, n) ∧ ((x394 = x400 → zV G (d + 1) mL_law (kc + 4) (ks + 300) 23 [(0, .ref (G.2.2.2.2.2.1 3)), (1, .ref (x)), (2, .ref (m)), (3, .ref (o)), (4, .int (l4 + 6))] [] (I401, J, R, K, n) Q) ∧ (¬ (x394 = x400) → Q (some (.int (0))) (I401, J, R, K, n)))))))))))) ∧ (((G.2.2.2.2.2.2.2 l4.toNatClampNeg) &&& 63) = 26 → ((vp_in (l4 + 1) G.2.2.2.2.2.2.1) ∧ ((vp_in (l4 + 2) G.2.2.2.2.2.2.1) ∧ zC G d mX11_weights 0 0 [.ref (x), .int (G.2.2.2.2.2.2.2 (l4 + 1 : Int32).toNatClampNeg), .int (G.2.2.2.2.2.2.2 (l4 + 2 : Int32).toNatClampNeg)] (I, J, R, K, n) (fun r h => ∃ (x406 : Int32) (I407 : Nat → Nat → Int32), r = some (.int x406) ∧ h = (I407, J, R, K, n) ∧ ((vp_in (l4 + 1) G.2.2.2.2.2.2.1) ∧ ((vp_in (l4 + 2) G.2.2.2.2.2.2.1) ∧ zC G d mX12_weights 0 0 [.ref (m), .int (G.2.2.2.2.2.2.2 (l4 + 1 : Int32).toNatClampNeg), .int (G.2.2.2.2.2.2.2 (l4 + 2 : Int32).toNatClampNeg)] (I407, J, R, K, n) (fun r h => ∃ (x410 : Int32) (I411 : Nat → Nat → Int32) (J412 : Nat → Nat → Int64) (R413 : Nat → Nat → Option Nat), r = some (.int x410) ∧ h = (I411, J412, R413, K, n) ∧ ∃ u414 u415 u416 : Nat, hX G R413 K n x u414 u415 u416 ∧ ∃ u418 u419 : Nat, hMod G R413 K n m u418 u419 ∧ hOut G R413 K n o ∧ ((x406 = x410 → zV G (d + 1) mL_law (kc + 4) (ks + 300) 23 [(0, .ref (G.2.2.2.2.2.1 3)), (1, .ref (x)), (2, .ref (m)), (3, .ref (o)), (4, .int (l4 + 6))] [] (I411, J412, R413, K, n) Q) ∧ (¬ (x406 = x410) → Q (some (.int (0))) (I411, J412, R413, K, n)))))))))) ∧ (((G.2.2.2.2.2.2.2 l4.toNatClampNeg) &&& 63) = 27 → ((vp_in (l4 + 1) G.2.2.2.2.2.2.1) ∧ zC G d mX11_ask 0 0 [.ref (x), .int (G.2.2.2.2.2.2.2 (l4 + 1 : Int32).toNatClampNeg)] (I, J, R, K, n) (fun r h => ∃ (x425 : Int32) (I426 : Nat → Nat → Int32), r = some (.int x425) ∧ h = (I426, J, R, K, n) ∧ ((vp_in (l4 + 1) G.2.2.2.2.2.2.1) ∧ zC G d mX12_ask 0 0 [.ref (m), .int (G.2.2.2.2.2.2.2 (l4 + 1 : Int32).toNatClampNeg)] (I426, J, R, K, n) (fun r h => ∃ (x428 : Int32) (I429 : Nat → Nat → Int32) (J430 : Nat → Nat → Int64) (R431 : Nat → Nat → Option Nat), r = some (.int x428) ∧ h = (I429, J430, R431, K, n) ∧ ∃ u432 u433 u434 : Nat, hX G R431 K n x u432 u433 u434 ∧ ∃ u436 u437 : Nat, hMod G R431 K n m u436 u437 ∧ hOut G R431 K n o ∧ ((x425 = x428 → zV G (d + 1) mL_law (kc + 4) (ks + 300) 23 [(0, .ref (G.2.2.2.2.2.1 3)), (1, .ref (x)), (2, .ref (m)), (3, .ref (o)), (4, .int (l4 + 6))] [] (I429, J430, R431, K, n) Q) ∧ (¬ (x425 = x428) → Q (some (.int (0))) (I429, J430, R431, K, n)))))))) ∧ (((G.2.2.2.2.2.2.2 l4.toNatClampNeg) &&& 63) = 28 → zC G d mX11_ring 0 0 [.ref (x)] (I, J, R, K, n) (fun r h => ∃ (x442 : Int32) (I443 : Nat → Nat → Int32), r = some (.int x442) ∧ h = (I443, J, R, K, n) ∧ zC G d mX12_ring 0 0 [.ref (m)] (I443, J, R, K, n) (fun r h => ∃ (x444 : Int32) (I445 : Nat → Nat → Int32), r = some (.int x444) ∧ h = (I445, J, R, K, n) ∧ ((x442 = x444 → zV G (d + 1) mL_law (kc + 4) (ks + 300) 23 [(0, .ref (G.2.2.2.2.2.1 3)), (1, .ref (x)), (2, .ref (m)), (3, .ref (o)), (4, .int (l4 + 6))] [] (I445, J, R, K, n) Q) ∧ (¬ (x442 = x444) → Q (some (.int (0))) (I445, J, R, K, n)))))) ∧ (((G.2.2.2.2.2.2.2 l4.toNatClampNeg) &&& 63) = 29 → ((vp_in (l4 + 1) G.2.2.2.2.2.2.1) ∧ ((vp_in (l4 + 2) G.2.2.2.2.2.2.1) ∧ zC G d mX11_chain 0 0 [.ref (x), .int (G.2.2.2.2.2.2.2 (l4 + 1 : Int32).toNatClampNeg), .int (G.2.2.2.2.2.2.2 (l4 + 2 : Int32).toNatClampNeg)] (I, J, R, K, n) (fun r h => ∃ (x450 : Int32) (I451 : Nat → Nat → Int32), r = some (.int x450) ∧ h = (I451, J, R, K, n) ∧ ((vp_in (l4 + 1) G.2.2.2.2.2.2.1) ∧ ((vp_in (l4 + 2) G.2.2.2.2.2.2.1) ∧ zC G d mX12_chain 0 0 [.ref (m), .int (G.2.2.2.2.2.2.2 (l4 + 1 : Int32).toNatClampNeg), .int (G.2.2.2.2.2.2.2 (l4 + 2 : Int32).toNatClampNeg)] (I451, J, R, K, n) (fun r h => ∃ (x454 : Int32) (I455 : Nat → Nat → Int32), r = some (.int x454) ∧ h = (I455, J, R, K, n) ∧ ((x450 = x454 → zV G (d + 1) mL_law (kc + 4) (ks + 300) 23 [(0, .ref (G.2.2.2.2.2.1 3)), (1, .ref (x)), (2, .ref (m)), (3, .ref (o)), (4, .int (l4 + 6))] [] (I455, J, R, K, n) Q) ∧ (¬ (x450 = x454) → Q (some (.int (0))) (I455, J, R, K, n)))))))))) ∧ (((G.2.2.2.2.2.2.2 l4.toNatClampNeg) &&& 63) = 30 → ((vp_in (l4 + 1) G.2.2.2.2.2.2.1) ∧ ((vp_in (l4 + 2) G.2.2.2.2.2.2.1) ∧ zC G d mX11_score 0 0 [.ref (x), .int (G.2.2.2.2.2.2.2 (l4 + 1 : Int32).toNatClampNeg), .int (G.2.2.2.2.2.2.2 (l4 + 2 : Int32).toNatClampNeg)] (I, J, R, K, n) (fun r h => ∃ (x460 : Int32) (I461 : Nat → Nat → Int32), r = some (.int x460) ∧ h = (I461, J, R, K, n) ∧ ((vp_in (l4 + 1) G.2.2.2.2.2.2.1) ∧ ((vp_in (l4 + 2) G.2.2.2.2.2.2.1) ∧ zC G d mX12_score 0 0 [.ref (m), .int (G.2.2.2.2.2.2.2 (l4 + 1 : Int32).toNatClampNeg), .int (G.2.2.2.2.2.2.2 (l4 + 2 : Int32).toNatClampNeg)] (I461, J, R, K, n) (fun r h => ∃ (x464 : Int32) (I465 : Nat → Nat → Int32), r = some (.int x464) ∧ h = (I465, J, R, K, n) ∧ ((x460 = x464 → zV G (d + 1) mL_law (kc + 4) (ks + 300) 23 [(0, .ref (G.2.2.2.2.2.1 3)), (1, .ref (x)), (2, .ref (m)), (3, .ref (o)), (4, .int (l4 + 6))] [] (I465, J, R, K, n) Q) ∧ (¬ (x460 = x464) → Q (some (.int (0))) (I465, J, R, K, n)))))))))) ∧ (((G.2.2.2.2.2.2.2 l4.toNatClampNeg) &&& 63) = 31 → ((vp_in (l4 + 1) G.2.2.2.2.2.2.1) ∧ ((vp_in (l4 + 2) G.2.2.2.2.2.2.1) ∧ ((vp_in (l4 + 3) G.2.2.2.2.2.2.1) ∧ ((vp_in (l4 + 4) G.2.2.2.2.2.2.1) ∧ ((vp_in (l4 + 5) G.2.2.2.2.2.2.1) ∧ zC G d mX11_game 0 0 [.ref (x), .int (G.2.2.2.2.2.2.2 (l4 + 1 : Int32).toNatClampNeg), .int (G.2.2.2.2.2.2.2 (l4 + 2 : Int32).toNatClampNeg), .int (G.2.2.2.2.2.2.2 (l4 + 3 : Int32).toNatClampNeg), .int (G.2.2.2.2.2.2.2 (l4 + 4 : Int32).toNatClampNeg), .int (G.2.2.2.2.2.2.2 (l4 + 5 : Int32).toNatClampNeg)] (I, J, R, K, n) (fun r h => ∃ (x473 : Int32) (I474 : Nat → Nat → Int32), r = some (.int x473) ∧ h = (I474, J, R, K, n) ∧ ((vp_in (l4 + 1) G.2.2.2.2.2.2.1) ∧ ((vp_in (l4 + 2) G.2.2.2.2.2.2.1) ∧ ((vp_in (l4 + 3) G.2.2.2.2.2.2.1) ∧ ((vp_in (l4 + 4) G.2.2.2.2.2.2.1) ∧ ((vp_in (l4 + 5) G.2.2.2.2.2.2.1) ∧ zC G d mX12_game 0 0 [.ref (m), .int (G.2.2.2.2.2.2.2 (l4 + 1 : Int32).toNatClampNeg), .int (G.2.2.2.2.2.2.2 (l4 + 2 : Int32).toNatClampNeg), .int (G.2.2.2.2.2.2.2 (l4 + 3 : Int32).toNatClampNeg), .int (G.2.2.2.2.2.2.2 (l4 + 4 : Int32).toNatClampNeg), .int (G.2.2.2.2.2.2.2 (l4 + 5 : Int32).toNatClampNeg)] (I474, J, R, K, n) (fun r h => ∃ (x480 : Int32) (I481 : Nat → Nat → Int32) (J482 : Nat → Nat → Int64) (R483 : Nat → Nat → Option Nat), r = some (.int x480) ∧ h = (I481, J482, R483, K, n) ∧ ∃ u484 u485 u486 : Nat, hX G R483 K n x u484 u485 u486 ∧ ∃ u488 u489 : Nat, hMod G R483 K n m u488 u489 ∧ hOut G R483 K n o ∧ ((x473 = x480 → zV G (d + 1) mL_law (kc + 4) (ks + 300) 23 [(0, .ref (G.2.2.2.2.2.1 3)), (1, .ref (x)), (2, .ref (m)), (3, .ref (o)), (4, .int (l4 + 6))] [] (I481, J482, R483, K, n) Q) ∧ (¬ (x473 = x480) → Q (some (.int (0))) (I481, J482, R483, K, n)))))))))))))))) ∧ (((G.2.2.2.2.2.2.2 l4.toNatClampNeg) &&& 63) = 32 → ((vp_in (l4 + 1) G.2.2.2.2.2.2.1) ∧ ((vp_in (l4 + 2) G.2.2.2.2.2.2.1) ∧ ((vp_in (l4 + 3) G.2.2.2.2.2.2.1) ∧ zC G d mX11_rests 0 0 [.ref (x), .int (G.2.2.2.2.2.2.2 (l4 + 1 : Int32).toNatClampNeg), .int (G.2.2.2.2.2.2.2 (l4 + 2 : Int32).toNatClampNeg), .int (G.2.2.2.2.2.2.2 (l4 + 3 : Int32).toNatClampNeg)] (I, J, R, K, n) (fun r h => ∃ (x497 : Int32) (I498 : Nat → Nat → Int32), r = some (.int x497) ∧ h = (I498, J, R, K, n) ∧ ((vp_in (l4 + 1) G.2.2.2.2.2.2.1) ∧ ((vp_in (l4 + 2) G.2.2.2.2.2.2.1) ∧ ((vp_in (l4 + 3) G.2.2.2.2.2.2.1) ∧ zC G d mX12_rests 0 0 [.ref (m), .int (G.2.2.2.2.2.2.2 (l4 + 1 : Int32).toNatClampNeg), .int (G.2.2.2.2.2.2.2 (l4 + 2 : Int32).toNatClampNeg), .int (G.2.2.2.2.2.2.2 (l4 + 3 : Int32).toNatClampNeg)] (I498, J, R, K, n) (fun r h => ∃ (x502 : Int32) (I503 : Nat → Nat → Int32) (J504 : Nat → Nat → Int64) (R505 : Nat → Nat → Option Nat), r = some (.int x502) ∧ h = (I503, J504, R505, K, n) ∧ ∃ u506 u507 u508 : Nat, hX G R505 K n x u506 u507 u508 ∧ ∃ u510 u511 : Nat, hMod G R505 K n m u510 u511 ∧ hOut G R505 K n o ∧ ((x497 = x502 → zV G (d + 1) mL_law (kc + 4) (ks + 300) 23 [(0, .ref (G.2.2.2.2.2.1 3)), (1, .ref (x)), (2, .ref (m)), (3, .ref (o)), (4, .int (l4 + 6))] [] (I503, J504, R505, K, n) Q) ∧ (¬ (x497 = x502) → Q (some (.int (0))) (I503, J504, R505, K, n)))))))))))) ∧ (((G.2.2.2.2.2.2.2 l4.toNatClampNeg) &&& 63) = 33 → ((vp_in (l4 + 1) G.2.2.2.2.2.2.1) ∧ ((vp_in (l4 + 2) G.2.2.2.2.2.2.1) ∧ zC G d mX11_odds 0 0 [.ref (x), .int (G.2.2.2.2.2.2.2 (l4 + 1 : Int32).toNatClampNeg), .int (G.2.2.2.2.2.2.2 (l4 + 2 : Int32).toNatClampNeg)] (I, J, R, K, n) (fun r h => ∃ (x518 : Int32) (I519 : Nat → Nat → Int32), r = some (.int x518) ∧ h = (I519, J, R, K, n) ∧ ((vp_in (l4 + 1) G.2.2.2.2.2.2.1) ∧ ((vp_in (l4 + 2) G.2.2.2.2.2.2.1) ∧ zC G d mX12_odds 0 0 [.ref (m), .int (G.2.2.2.2.2.2.2 (l4 + 1 : Int32).toNatClampNeg), .int (G.2.2.2.2.2.2.2 (l4 + 2 : Int32).toNatClampNeg)] (I519, J, R, K, n) (fun r h => ∃ (x522 : Int32) (I523 : Nat → Nat → Int32) (J524 : Nat → Nat → Int64) (R525 : Nat → Nat → Option Nat), r = some (.int x522) ∧ h = (I523, J524, R525, K, n) ∧ ∃ u526 u527 u528 : Nat, hX G R525 K n x u526 u527 u528 ∧ ∃ u530 u531 : Nat, hMod G R525 K n m u530 u531 ∧ hOut G R525 K n o ∧ ((x518 = x522 → zV G (d + 1) mL_law (kc + 4) (ks + 300) 23 [(0, .ref (G.2.2.2.2.2.1 3)), (1, .ref (x)), (2, .ref (m)), (3, .ref (o)), (4, .int (l4 + 6))] [] (I523, J524, R525, K, n) Q) ∧ (¬ (x518 = x522) → Q (some (.int (0))) (I523, J524, R525, K, n)))))))))) ∧ (((G.2.2.2.2.2.2.2 l4.toNatClampNeg) &&& 63) = 34 → ((vp_in (l4 + 1) G.2.2.2.2.2.2.1) ∧ ((vp_in (l4 + 2) G.2.2.2.2.2.2.1) ∧ zC G d mX11_shares 0 0 [.ref (x), .int (G.2.2.2.2.2.2.2 (l4 + 1 : Int32).toNatClampNeg), .int (G.2.2.2.2.2.2.2 (l4 + 2 : Int32).toNatClampNeg)] (I, J, R, K, n) (fun r h => ∃ (x538 : Int32) (I539 : Nat → Nat → Int32), r = some (.int x538) ∧ h = (I539, J, R, K, n) ∧ ((vp_in (l4 + 1) G.2.2.2.2.2.2.1) ∧ ((vp_in (l4 + 2) G.2.2.2.2.2.2.1) ∧ zC G d mX12_shares 0 0 [.ref (m), .int (G.2.2.2.2.2.2.2 (l4 + 1 : Int32).toNatClampNeg), .int (G.2.2.2.2.2.2.2 (l4 + 2 : Int32).toNatClampNeg)] (I539, J, R, K, n) (fun r h => ∃ (x542 : Int32) (I543 : Nat → Nat → Int32), r = some (.int x542) ∧ h = (I543, J, R, K, n) ∧ ((x538 = x542 → zV G (d + 1) mL_law (kc + 4) (ks + 300) 23 [(0, .ref (G.2.2.2.2.2.1 3)), (1, .ref (x)), (2, .ref (m)), (3, .ref (o)), (4, .int (l4 + 6))] [] (I543, J, R, K, n) Q) ∧ (¬ (x538 = x542) → Q (some (.int (0))) (I543, J, R, K, n)))))))))) ∧ (((G.2.2.2.2.2.2.2 l4.toNatClampNeg) &&& 63) = 35 → ((vp_in (l4 + 1) G.2.2.2.2.2.2.1) ∧ zC G d mX11_fades 0 0 [.ref (x), .int (G.2.2.2.2.2.2.2 (l4 + 1 : Int32).toNatClampNeg)] (I, J, R, K, n) (fun r h => ∃ (x547 : Int32) (I548 : Nat → Nat → Int32), r = some (.int x547) ∧ h = (I548, J, R, K, n) ∧ ((vp_in (l4 + 1) G.2.2.2.2.2.2.1) ∧ zC G d mX12_fades 0 0 [.ref (m), .int (G.2.2.2.2.2.2.2 (l4 + 1 : Int32).toNatClampNeg)] (I548, J, R, K, n) (fun r h => ∃ (x550 : Int32) (I551 : Nat → Nat → Int32), r = some (.int x550) ∧ h = (I551, J, R, K, n) ∧ ((x547 = x550 → zV G (d + 1) mL_law (kc + 4) (ks + 300) 23 [(0, .ref (G.2.2.2.2.2.1 3)), (1, .ref (x)), (2, .ref (m)), (3, .ref (o)), (4, .int (l4 + 6))] [] (I551, J, R, K, n) Q) ∧ (¬ (x547 = x550) → Q (some (.int (0))) (I551, J, R, K, n)))))))) ∧ (((G.2.2.2.2.2.2.2 l4.toNatClampNeg) &&& 63) = 36 → ((vp_in (l4 + 1) G.2.2.2.2.2.2.1) ∧ zC G d mX11_all 0 0 [.ref (x), .int (G.2.2.2.2.2.2.2 (l4 + 1 : Int32).toNatClampNeg)] (I, J, R, K, n) (fun r h => ∃ (x555 : Int32) (I556 : Nat → Nat → Int32), r = some (.int x555) ∧ h = (I556, J, R, K, n) ∧ ((vp_in (l4 + 1) G.2.2.2.2.2.2.1) ∧ zC G d mX12_all 0 0 [.ref (m), .int (G.2.2.2.2.2.2.2 (l4 + 1 : Int32).toNatClampNeg)] (I556, J, R, K, n) (fun r h => ∃ (x558 : Int32) (I559 : Nat → Nat → Int32), r = some (.int x558) ∧ h = (I559, J, R, K, n) ∧ ((x555 = x558 → zV G (d + 1) mL_law (kc + 4) (ks + 300) 23 [(0, .ref (G.2.2.2.2.2.1 3)), (1, .ref (x)), (2, .ref (m)), (3, .ref (o)), (4, .int (l4 + 6))] [] (I559, J, R, K, n) Q) ∧ (¬ (x555 = x558) → Q (some (.int (0))) (I559, J, R, K, n)))))))) ∧ (((G.2.2.2.2.2.2.2 l4.toNatClampNeg) &&& 63) = 37 → zC G d mX11_image 0 0 [.ref (x)] (I, J, R, K, n) (fun r h => ∃ (x562 : Int32) (I563 : Nat → Nat → Int32), r = some (.int x562) ∧ h = (I563, J, R, K, n) ∧ zC G d mX12_image 0 0 [.ref (m)] (I563, J, R, K, n) (fun r h => ∃ (x564 : Int32) (I565 : Nat → Nat → Int32), r = some (.int x564) ∧ h = (I565, J, R, K, n) ∧ ((x562 = x564 → zV G (d + 1) mL_law (kc + 4) (ks + 300) 23 [(0, .ref (G.2.2.2.2.2.1 3)), (1, .ref (x)), (2, .ref (m)), (3, .ref (o)), (4, .int (l4 + 6))] [] (I565, J, R, K, n) Q) ∧ (¬ (x562 = x564) → Q (some (.int (0))) (I565, J, R, K, n)))))) ∧ (((G.2.2.2.2.2.2.2 l4.toNatClampNeg) &&& 63) = 38 → zC G d mX11_back 0 0 [.ref (x)] (I, J, R, K, n) (fun r h => ∃ (x568 : Int32) (I569 : Nat → Nat → Int32), r = some (.int x568) ∧ h = (I569, J, R, K, n) ∧ zC G d mX12_back 0 0 [.ref (m)] (I569, J, R, K, n) (fun r h => ∃ (x570 : Int32) (I571 : Nat → Nat → Int32), r = some (.int x570) ∧ h = (I571, J, R, K, n) ∧ ((x568 = x570 → zV G (d + 1) mL_law (kc + 4) (ks + 300) 23 [(0, .ref (G.2.2.2.2.2.1 3)), (1, .ref (x)), (2, .ref (m)), (3, .ref (o)), (4, .int (l4 + 6))] [] (I571, J, R, K, n) Q) ∧ (¬ (x568 = x570) → Q (some (.int (0))) (I571, J, R, K, n)))))) ∧ (((G.2.2.2.2.2.2.2 l4.toNatClampNeg) &&& 63) = 39 → ((vp_in (l4 + 1) G.2.2.2.2.2.2.1) ∧ zC G d mX11_count 0 0 [.ref (x), .int (G.2.2.2.2.2.2.2 (l4 + 1 : Int32).toNatClampNeg)] (I, J, R, K, n) (fun r h => ∃ (x575 : Int32) (I576 : Nat → Nat → Int32), r = some (.int x575) ∧ h = (I576, J, R, K, n) ∧ ((vp_in (l4 + 1) G.2.2.2.2.2.2.1) ∧ zC G d mX12_count 0 0 [.ref (m), .int (G.2.2.2.2.2.2.2 (l4 + 1 : Int32).toNatClampNeg)] (I576, J, R, K, n) (fun r h => ∃ (x578 : Int32) (I579 : Nat → Nat → Int32), r = some (.int x578) ∧ h = (I579, J, R, K, n) ∧ ((x575 = x578 → zV G (d + 1) mL_law (kc + 4) (ks + 300) 23 [(0, .ref (G.2.2.2.2.2.1 3)), (1, .ref (x)), (2, .ref (m)), (3, .ref (o)), (4, .int (l4 + 6))] [] (I579, J, R, K, n) Q) ∧ (¬ (x575 = x578) → Q (some (.int (0))) (I579, J, R, K, n)))))))) ∧ (¬ ((G.2.2.2.2.2.2.2 l4.toNatClampNeg) &&& 63) = 0 → ¬ ((G.2.2.2.2.2.2.2 l4.toNatClampNeg) &&& 63) = 1 → ¬ ((G.2.2.2.2.2.2.2 l4.toNatClampNeg) &&& 63) = 2 → ¬ ((G.2.2.2.2.2.2.2 l4.toNatClampNeg) &&& 63) = 3 → ¬ ((G.2.2.2.2.2.2.2 l4.toNatClampNeg) &&& 63) = 4 → ¬ ((G.2.2.2.2.2.2.2 l4.toNatClampNeg) &&& 63) = 5 → ¬ ((G.2.2.2.2.2.2.2 l4.toNatClampNeg) &&& 63) = 6 → ¬ ((G.2.2.2.2.2.2.2 l4.toNatClampNeg) &&& 63) = 7 → ¬ ((G.2.2.2.2.2.2.2 l4.toNatClampNeg) &&& 63) = 8 → ¬ ((G.2.2.2.2.2.2.2 l4.toNatClampNeg) &&& 63) = 9 → ¬ ((G.2.2.2.2.2.2.2 l4.toNatClampNeg) &&& 63) = 10 → ¬ ((G.2.2.2.2.2.2.2 l4.toNatClampNeg) &&& 63) = 11 → ¬ ((G.2.2.2.2.2.2.2 l4.toNatClampNeg) &&& 63) = 12 → ¬ ((G.2.2.2.2.2.2.2 l4.toNatClampNeg) &&& 63) = 13 → ¬ ((G.2.2.2.2.2.2.2 l4.toNatClampNeg) &&& 63) = 14 → ¬ ((G.2.2.2.2.2.2.2 l4.toNatClampNeg) &&& 63) = 15 → ¬ ((G.2.2.2.2.2.2.2 l4.toNatClampNeg) &&& 63) = 16 → ¬ ((G.2.2.2.2.2.2.2 l4.toNatClampNeg) &&& 63) = 17 → ¬ ((G.2.2.2.2.2.2.2 l4.toNatClampNeg) &&& 63) = 18 → ¬ ((G.2.2.2.2.2.2.2 l4.toNatClampNeg) &&& 63) = 19 → ¬ ((G.2.2.2.2.2.2.2 l4.toNatClampNeg) &&& 63) = 20 → ¬ ((G.2.2.2.2.2.2.2 l4.toNatClampNeg) &&& 63) = 21 → ¬ ((G.2.2.2.2.2.2.2 l4.toNatClampNeg) &&& 63) = 22 → ¬ ((G.2.2.2.2.2.2.2 l4.toNatClampNeg) &&& 63) = 23 → ¬ ((G.2.2.2.2.2.2.2 l4.toNatClampNeg) &&& 63) = 24 → ¬ ((G.2.2.2.2.2.2.2 l4.toNatClampNeg) &&& 63) = 25 → ¬ ((G.2.2.2.2.2.2.2 l4.toNatClampNeg) &&& 63) = 26 → ¬ ((G.2.2.2.2.2.2.2 l4.toNatClampNeg) &&& 63) = 27 → ¬ ((G.2.2.2.2.2.2.2 l4.toNatClampNeg) &&& 63) = 28 → ¬ ((G.2.2.2.2.2.2.2 l4.toNatClampNeg) &&& 63) = 29 → ¬ ((G.2.2.2.2.2.2.2 l4.toNatClampNeg) &&& 63) = 30 → ¬ ((G.2.2.2.2.2.2.2 l4.toNatClampNeg) &&& 63) = 31 → ¬ ((G.2.2.2.2.2.2.2 l4.toNatClampNeg) &&& 63) = 32 → ¬ ((G.2.2.2.2.2.2.2 l4.toNatClampNeg) &&& 63) = 33 → ¬ ((G.2.2.2.2.2.2.2 l4.toNatClampNeg) &&& 63) = 34 → ¬ ((G.2.2.2.2.2.2.2 l4.toNatClampNeg) &&& 63) = 35 → ¬ ((G.2.2.2.2.2.2.2 l4.toNatClampNeg) &&& 63) = 36 → ¬ ((G.2.2.2.2.2.2.2 l4.toNatClampNeg) &&& 63) = 37 → ¬ ((G.2.2.2.2.2.2.2 l4.toNatClampNeg) &&& 63) = 38 → ¬ ((G.2.2.2.2.2.2.2 l4.toNatClampNeg) &&& 63) = 39 → zV G (d + 1) mL_law (kc + 4) (ks + 300) 23 [(0, .ref (G.2.2.2.2.2.1 3)), (1, .ref (x)), (2, .ref (m)), (3, .ref (o)), (4, .int (l4 + 6))] [] (I, J, R, K, n) Q)))))) : zV G (d + 1) mL_law (kc + 4) (ks + 300) 23 [(0, .ref (G.2.2.2.2.2.1 3)), (1, .ref (x)), (2, .ref (m)), (3, .ref (o)), (4, .int (l4))] [] (I, J, R, K, n) Q := by
  refine zIload 4 4 25 (by decide +kernel) rfl rfl ?_
  refine zAload_n 0 0 26 (by decide +kernel) rfl rfl ?_
  refine zSalen 27 (by decide +kernel) rfl ?_
  refine zBipush 6 6 29 (by decide +kernel) rfl (by decide) ?_
  refine zIsub 30 (by decide +kernel) rfl ?_
  refine zIcmp_gt 1559 1589 33 (by decide +kernel) rfl rfl ⟨fun q1 => ?_, fun q1 => ?_⟩
  · replace F := F.1 q1
    refine zIconst 1 1 1590 (by decide +kernel) rfl (by decide) ?_
    exact zZret .boolean rfl (zNarZ (Or.inr rfl)) (by decide +kernel) F
  · replace F := F.2 q1
    refine zAload_n 0 0 34 (by decide +kernel) rfl rfl ?_
    refine zIload 4 4 36 (by decide +kernel) rfl rfl ?_
    obtain ⟨w2, F⟩ := F
    refine zSaload 37 (by decide +kernel) rfl (w2) ?_
    refine zBipush 63 63 39 (by decide +kernel) rfl (by decide) ?_
    refine zIand 40 (by decide +kernel) rfl ?_
    by_cases q3 : ((G.2.2.2.2.2.2.2 l4.toNatClampNeg) &&& 63) = 0
    · replace F := F.1 q3
      have zt := zEqT q3 (show (0 : Int32).toInt = 0 by decide)
      refine zTableIn 1543 0 39 #[176, 249, 274, 299, 324, 392, 429, 454, 479, 504, 541, 566, 615, 640, 665, 678, 747, 760, 797, 846, 883, 908, 945, 970, 1007, 1032, 1097, 1134, 1159, 1172, 1209, 1246, 1319, 1368, 1405, 1442, 1467, 1492, 1505, 1518] 176 176 216 (by decide +kernel) (by omega) (by omega) (by rw [zt]; decide) rfl ?_
      refine zAload_n 1 1 217 (by decide +kernel) rfl rfl ?_
      refine zAload_n 0 0 218 (by decide +kernel) rfl rfl ?_
      refine zIload 4 4 220 (by decide +kernel) rfl rfl ?_
      refine zIconst 1 1 221 (by decide +kernel) rfl (by decide) ?_
      refine zIadd 222 (by decide +kernel) rfl ?_
      obtain ⟨w4, F⟩ := F
      refine zSaload 223 (by decide +kernel) rfl (w4) ?_
      refine zAload_n 0 0 224 (by decide +kernel) rfl rfl ?_
      refine zIload 4 4 226 (by decide +kernel) rfl rfl ?_
      refine zIconst 2 2 227 (by decide +kernel) rfl (by decide) ?_
      refine zIadd 228 (by decide +kernel) rfl ?_
      obtain ⟨w5, F⟩ := F
      refine zSaload 229 (by decide +kernel) rfl (w5) ?_
      refine zAload_n 0 0 230 (by decide +kernel) rfl rfl ?_
      refine zIload 4 4 232 (by decide +kernel) rfl rfl ?_
      refine zIconst 3 3 233 (by decide +kernel) rfl (by decide) ?_
      refine zIadd 234 (by decide +kernel) rfl ?_
      obtain ⟨w6, F⟩ := F
      refine zSaload 235 (by decide +kernel) rfl (w6) ?_
      refine zAload_n 0 0 236 (by decide +kernel) rfl rfl ?_
      refine zIload 4 4 238 (by decide +kernel) rfl rfl ?_
      refine zIconst 4 4 239 (by decide +kernel) rfl (by decide) ?_
      refine zIadd 240 (by decide +kernel) rfl ?_
      obtain ⟨w7, F⟩ := F
      refine zSaload 241 (by decide +kernel) rfl (w7) ?_
      refine zAload_n 0 0 242 (by decide +kernel) rfl rfl ?_
      refine zIload 4 4 244 (by decide +kernel) rfl rfl ?_
      refine zIconst 5 5 245 (by decide +kernel) rfl (by decide) ?_
      refine zIadd 246 (by decide +kernel) rfl ?_
      obtain ⟨w8, F⟩ := F
      refine zSaload 247 (by decide +kernel) rfl (w8) ?_
      refine zCallV 11 zcls11 mX11_feed 19 5 0 0 _ _ 250 [.int (G.2.2.2.2.2.2.2 (l4 + 1 : Int32).toNatClampNeg), .int (G.2.2.2.2.2.2.2 (l4 + 2 : Int32).toNatClampNeg), .int (G.2.2.2.2.2.2.2 (l4 + 3 : Int32).toNatClampNeg), .int (G.2.2.2.2.2.2.2 (l4 + 4 : Int32).toNatClampNeg), .int (G.2.2.2.2.2.2.2 (l4 + 5 : Int32).toNatClampNeg)] [] okX11_feed mlL_19 imX11_feed seX11_feed (by decide +kernel) rfl rfl (Nat.le_of_ble_eq_true rfl) rfl rfl (X_0 S0_) (zC.mono F ?_)
      rintro _ _ ⟨x9, I10, rfl, rfl, F⟩
      change zV G (d + 1) mL_law (kc + 4) (ks + 300) 250 [(0, .ref (G.2.2.2.2.2.1 3)), (1, .ref (x)), (2, .ref (m)), (3, .ref (o)), (4, .int (l4))] [.int (x9)] (I10, J, R, K, n) Q
      refine zAload_n 2 2 251 (by decide +kernel) rfl rfl ?_
      refine zAload_n 0 0 252 (by decide +kernel) rfl rfl ?_
      refine zIload 4 4 254 (by decide +kernel) rfl rfl ?_
      refine zIconst 1 1 255 (by decide +kernel) rfl (by decide) ?_
      refine zIadd 256 (by decide +kernel) rfl ?_
      obtain ⟨w11, F⟩ := F
      refine zSaload 257 (by decide +kernel) rfl (w11) ?_
      refine zAload_n 0 0 258 (by decide +kernel) rfl rfl ?_
      refine zIload 4 4 260 (by decide +kernel) rfl rfl ?_
      refine zIconst 2 2 261 (by decide +kernel) rfl (by decide) ?_
      refine zIadd 262 (by decide +kernel) rfl ?_
      obtain ⟨w12, F⟩ := F
      refine zSaload 263 (by decide +kernel) rfl (w12) ?_
      refine zAload_n 0 0 264 (by decide +kernel) rfl rfl ?_
      refine zIload 4 4 266 (by decide +kernel) rfl rfl ?_
      refine zIconst 3 3 267 (by decide +kernel) rfl (by decide) ?_
      refine zIadd 268 (by decide +kernel) rfl ?_
      obtain ⟨w13, F⟩ := F
      refine zSaload 269 (by decide +kernel) rfl (w13) ?_
      refine zAload_n 0 0 270 (by decide +kernel) rfl rfl ?_
      refine zIload 4 4 272 (by decide +kernel) rfl rfl ?_
      refine zIconst 4 4 273 (by decide +kernel) rfl (by decide) ?_
      refine zIadd 274 (by decide +kernel) rfl ?_
      obtain ⟨w14, F⟩ := F
      refine zSaload 275 (by decide +kernel) rfl (w14) ?_
      refine zAload_n 0 0 276 (by decide +kernel) rfl rfl ?_
      refine zIload 4 4 278 (by decide +kernel) rfl rfl ?_
      refine zIconst 5 5 279 (by decide +kernel) rfl (by decide) ?_
      refine zIadd 280 (by decide +kernel) rfl ?_
      obtain ⟨w15, F⟩ := F
      refine zSaload 281 (by decide +kernel) rfl (w15) ?_
      refine zCallV 12 zcls12 mX12_feed 23 5 0 0 _ _ 284 [.int (G.2.2.2.2.2.2.2 (l4 + 1 : Int32).toNatClampNeg), .int (G.2.2.2.2.2.2.2 (l4 + 2 : Int32).toNatClampNeg), .int (G.2.2.2.2.2.2.2 (l4 + 3 : Int32).toNatClampNeg), .int (G.2.2.2.2.2.2.2 (l4 + 4 : Int32).toNatClampNeg), .int (G.2.2.2.2.2.2.2 (l4 + 5 : Int32).toNatClampNeg)] [.int (x9)] okX12_feed mlL_23 imX12_feed seX12_feed (by decide +kernel) rfl rfl (Nat.le_of_ble_eq_true rfl) rfl rfl (Mod_0 S1_) (zC.mono F ?_)
      rintro _ _ ⟨x16, I17, rfl, rfl, F⟩
      change zV G (d + 1) mL_law (kc + 4) (ks + 300) 284 [(0, .ref (G.2.2.2.2.2.1 3)), (1, .ref (x)), (2, .ref (m)), (3, .ref (o)), (4, .int (l4))] [.int (x16), .int (x9)] (I17, J, R, K, n) Q
      refine zIcmp_eq 1299 1583 287 (by decide +kernel) rfl rfl ⟨fun q18 => ?_, fun q18 => ?_⟩
      · replace F := F.1 q18
        refine zIinc 4 6 4 (l4 + 6) [(4, .int (l4 + 6)), (0, .ref (G.2.2.2.2.2.1 3)), (1, .ref (x)), (2, .ref (m)), (3, .ref (o))] 1586 (by decide +kernel) rfl rfl (by rfl) (by decide) rfl ?_
        refine zGoto (-1563) 23 (by decide +kernel) rfl ?_
        exact zLoc [1, 2, 3, 4, 0] _ rfl F
      · replace F := F.2 q18
        refine zIconst 0 0 288 (by decide +kernel) rfl (by decide) ?_
        exact zZret .boolean rfl (zNarZ (Or.inl rfl)) (by decide +kernel) F
    · skip
      by_cases q19 : ((G.2.2.2.2.2.2.2 l4.toNatClampNeg) &&& 63) = 1
      · replace F := F.2.1 q19
        have zt := zEqT q19 (show (1 : Int32).toInt = 1 by decide)
        refine zTableIn 1543 0 39 #[176, 249, 274, 299, 324, 392, 429, 454, 479, 504, 541, 566, 615, 640, 665, 678, 747, 760, 797, 846, 883, 908, 945, 970, 1007, 1032, 1097, 1134, 1159, 1172, 1209, 1246, 1319, 1368, 1405, 1442, 1467, 1492, 1505, 1518] 176 249 289 (by decide +kernel) (by omega) (by omega) (by rw [zt]; decide) rfl ?_
        refine zAload_n 1 1 290 (by decide +kernel) rfl rfl ?_
        refine zAload_n 0 0 291 (by decide +kernel) rfl rfl ?_
        refine zIload 4 4 293 (by decide +kernel) rfl rfl ?_
        refine zIconst 1 1 294 (by decide +kernel) rfl (by decide) ?_
        refine zIadd 295 (by decide +kernel) rfl ?_
        obtain ⟨w20, F⟩ := F
        refine zSaload 296 (by decide +kernel) rfl (w20) ?_
        refine zCallV 11 zcls11 mX11_end 24 1 0 0 _ _ 299 [.int (G.2.2.2.2.2.2.2 (l4 + 1 : Int32).toNatClampNeg)] [] okX11_end mlL_24 imX11_end seX11_end (by decide +kernel) rfl rfl (Nat.le_of_ble_eq_true rfl) rfl rfl (X_0 S0_) (zC.mono F ?_)
        rintro _ _ ⟨x21, I22, rfl, rfl, F⟩
        change zV G (d + 1) mL_law (kc + 4) (ks + 300) 299 [(0, .ref (G.2.2.2.2.2.1 3)), (1, .ref (x)), (2, .ref (m)), (3, .ref (o)), (4, .int (l4))] [.int (x21)] (I22, J, R, K, n) Q
        refine zAload_n 2 2 300 (by decide +kernel) rfl rfl ?_
        refine zAload_n 0 0 301 (by decide +kernel) rfl rfl ?_
        refine zIload 4 4 303 (by decide +kernel) rfl rfl ?_
        refine zIconst 1 1 304 (by decide +kernel) rfl (by decide) ?_
        refine zIadd 305 (by decide +kernel) rfl ?_
        obtain ⟨w23, F⟩ := F
        refine zSaload 306 (by decide +kernel) rfl (w23) ?_
        refine zCallV 12 zcls12 mX12_end 28 1 0 0 _ _ 309 [.int (G.2.2.2.2.2.2.2 (l4 + 1 : Int32).toNatClampNeg)] [.int (x21)] okX12_end mlL_28 imX12_end seX12_end (by decide +kernel) rfl rfl (Nat.le_of_ble_eq_true rfl) rfl rfl (Mod_0 S1_) (zC.mono F ?_)
        rintro _ _ ⟨x24, I25, rfl, rfl, F⟩
        change zV G (d + 1) mL_law (kc + 4) (ks + 300) 309 [(0, .ref (G.2.2.2.2.2.1 3)), (1, .ref (x)), (2, .ref (m)), (3, .ref (o)), (4, .int (l4))] [.int (x24), .int (x21)] (I25, J, R, K, n) Q
        refine zIcmp_eq 1274 1583 312 (by decide +kernel) rfl rfl ⟨fun q26 => ?_, fun q26 => ?_⟩
        · replace F := F.1 q26
          refine zIinc 4 6 4 (l4 + 6) [(4, .int (l4 + 6)), (0, .ref (G.2.2.2.2.2.1 3)), (1, .ref (x)), (2, .ref (m)), (3, .ref (o))] 1586 (by decide +kernel) rfl rfl (by rfl) (by decide) rfl ?_
          refine zGoto (-1563) 23 (by decide +kernel) rfl ?_
          exact zLoc [1, 2, 3, 4, 0] _ rfl F
        · replace F := F.2 q26
          refine zIconst 0 0 313 (by decide +kernel) rfl (by decide) ?_
          exact zZret .boolean rfl (zNarZ (Or.inl rfl)) (by decide +kernel) F
      · skip
        by_cases q27 : ((G.2.2.2.2.2.2.2 l4.toNatClampNeg) &&& 63) = 2
        · replace F := F.2.2.1 q27
          have zt := zEqT q27 (show (2 : Int32).toInt = 2 by decide)
          refine zTableIn 1543 0 39 #[176, 249, 274, 299, 324, 392, 429, 454, 479, 504, 541, 566, 615, 640, 665, 678, 747, 760, 797, 846, 883, 908, 945, 970, 1007, 1032, 1097, 1134, 1159, 1172, 1209, 1246, 1319, 1368, 1405, 1442, 1467, 1492, 1505, 1518] 176 274 314 (by decide +kernel) (by omega) (by omega) (by rw [zt]; decide) rfl ?_
          refine zAload_n 1 1 315 (by decide +kernel) rfl rfl ?_
          refine zAload_n 0 0 316 (by decide +kernel) rfl rfl ?_
          refine zIload 4 4 318 (by decide +kernel) rfl rfl ?_
          refine zIconst 1 1 319 (by decide +kernel) rfl (by decide) ?_
          refine zIadd 320 (by decide +kernel) rfl ?_
          obtain ⟨w28, F⟩ := F
          refine zSaload 321 (by decide +kernel) rfl (w28) ?_
          refine zCallV 11 zcls11 mX11_fault 29 1 0 0 _ _ 324 [.int (G.2.2.2.2.2.2.2 (l4 + 1 : Int32).toNatClampNeg)] [] okX11_fault mlL_29 imX11_fault seX11_fault (by decide +kernel) rfl rfl (Nat.le_of_ble_eq_true rfl) rfl rfl (X_0 S0_) (zC.mono F ?_)
          rintro _ _ ⟨x29, I30, R31, rfl, rfl, F⟩
          change zV G (d + 1) mL_law (kc + 4) (ks + 300) 324 [(0, .ref (G.2.2.2.2.2.1 3)), (1, .ref (x)), (2, .ref (m)), (3, .ref (o)), (4, .int (l4))] [.int (x29)] (I30, J, R31, K, n) Q
          obtain ⟨u32, u33, u34, S35, F⟩ := F
          obtain ⟨u36, u37, S38, F⟩ := F
          obtain ⟨S39, F⟩ := F
          refine zAload_n 2 2 325 (by decide +kernel) rfl rfl ?_
          refine zAload_n 0 0 326 (by decide +kernel) rfl rfl ?_
          refine zIload 4 4 328 (by decide +kernel) rfl rfl ?_
          refine zIconst 1 1 329 (by decide +kernel) rfl (by decide) ?_
          refine zIadd 330 (by decide +kernel) rfl ?_
          obtain ⟨w40, F⟩ := F
          refine zSaload 331 (by decide +kernel) rfl (w40) ?_
          refine zCallV 12 zcls12 mX12_fault 33 1 0 0 _ _ 334 [.int (G.2.2.2.2.2.2.2 (l4 + 1 : Int32).toNatClampNeg)] [.int (x29)] okX12_fault mlL_33 imX12_fault seX12_fault (by decide +kernel) rfl rfl (Nat.le_of_ble_eq_true rfl) rfl rfl (Mod_0 S38) (zC.mono F ?_)
          rintro _ _ ⟨x41, I42, J43, R44, rfl, rfl, F⟩
          change zV G (d + 1) mL_law (kc + 4) (ks + 300) 334 [(0, .ref (G.2.2.2.2.2.1 3)), (1, .ref (x)), (2, .ref (m)), (3, .ref (o)), (4, .int (l4))] [.int (x41), .int (x29)] (I42, J43, R44, K, n) Q
          obtain ⟨u45, u46, u47, S48, F⟩ := F
          obtain ⟨u49, u50, S51, F⟩ := F
          obtain ⟨S52, F⟩ := F
          refine zIcmp_eq 1249 1583 337 (by decide +kernel) rfl rfl ⟨fun q53 => ?_, fun q53 => ?_⟩
          · replace F := F.1 q53
            refine zIinc 4 6 4 (l4 + 6) [(4, .int (l4 + 6)), (0, .ref (G.2.2.2.2.2.1 3)), (1, .ref (x)), (2, .ref (m)), (3, .ref (o))] 1586 (by decide +kernel) rfl rfl (by rfl) (by decide) rfl ?_
            refine zGoto (-1563) 23 (by decide +kernel) rfl ?_
            exact zLoc [1, 2, 3, 4, 0] _ rfl F
          · replace F := F.2 q53
            refine zIconst 0 0 338 (by decide +kernel) rfl (by decide) ?_
            exact zZret .boolean rfl (zNarZ (Or.inl rfl)) (by decide +kernel) F
        · skip
          by_cases q54 : ((G.2.2.2.2.2.2.2 l4.toNatClampNeg) &&& 63) = 3
          · replace F := F.2.2.2.1 q54
            have zt := zEqT q54 (show (3 : Int32).toInt = 3 by decide)
            refine zTableIn 1543 0 39 #[176, 249, 274, 299, 324, 392, 429, 454, 479, 504, 541, 566, 615, 640, 665, 678, 747, 760, 797, 846, 883, 908, 945, 970, 1007, 1032, 1097, 1134, 1159, 1172, 1209, 1246, 1319, 1368, 1405, 1442, 1467, 1492, 1505, 1518] 176 299 339 (by decide +kernel) (by omega) (by omega) (by rw [zt]; decide) rfl ?_
            refine zAload_n 1 1 340 (by decide +kernel) rfl rfl ?_
            refine zAload_n 0 0 341 (by decide +kernel) rfl rfl ?_
            refine zIload 4 4 343 (by decide +kernel) rfl rfl ?_
            refine zIconst 1 1 344 (by decide +kernel) rfl (by decide) ?_
            refine zIadd 345 (by decide +kernel) rfl ?_
            obtain ⟨w55, F⟩ := F
            refine zSaload 346 (by decide +kernel) rfl (w55) ?_
            refine zCallV 11 zcls11 mX11_text 34 1 4 300 kc ks 349 [.int (G.2.2.2.2.2.2.2 (l4 + 1 : Int32).toNatClampNeg)] [] okX11_text mlL_34 imX11_text seX11_text (by decide +kernel) rfl rfl (Nat.le_of_ble_eq_true rfl) (by omega) (by omega) (X_0 S0_) (zC.mono F ?_)
            rintro _ _ ⟨x56, I57, R58, K59, n60, rfl, rfl, F⟩
            change zV G (d + 1) mL_law kc ks 349 [(0, .ref (G.2.2.2.2.2.1 3)), (1, .ref (x)), (2, .ref (m)), (3, .ref (o)), (4, .int (l4))] [.int (x56)] (I57, J, R58, K59, n60) Q
            obtain ⟨u61, u62, u63, S64, F⟩ := F
            obtain ⟨u65, u66, S67, F⟩ := F
            obtain ⟨S68, F⟩ := F
            refine zAload_n 2 2 350 (by decide +kernel) rfl rfl ?_
            refine zAload_n 0 0 351 (by decide +kernel) rfl rfl ?_
            refine zIload 4 4 353 (by decide +kernel) rfl rfl ?_
            refine zIconst 1 1 354 (by decide +kernel) rfl (by decide) ?_
            refine zIadd 355 (by decide +kernel) rfl ?_
            obtain ⟨w69, F⟩ := F
            refine zSaload 356 (by decide +kernel) rfl (w69) ?_
            refine zCallV 12 zcls12 mX12_text 37 1 0 0 _ _ 359 [.int (G.2.2.2.2.2.2.2 (l4 + 1 : Int32).toNatClampNeg)] [.int (x56)] okX12_text mlL_37 imX12_text seX12_text (by decide +kernel) rfl rfl (Nat.le_of_ble_eq_true rfl) rfl rfl (Mod_0 S67) (zC.mono F ?_)
            rintro _ _ ⟨x70, I71, J72, R73, rfl, rfl, F⟩
            change zV G (d + 1) mL_law kc ks 359 [(0, .ref (G.2.2.2.2.2.1 3)), (1, .ref (x)), (2, .ref (m)), (3, .ref (o)), (4, .int (l4))] [.int (x70), .int (x56)] (I71, J72, R73, K59, n60) Q
            obtain ⟨u74, u75, u76, S77, F⟩ := F
            obtain ⟨u78, u79, S80, F⟩ := F
            obtain ⟨S81, F⟩ := F
            refine zIcmp_eq 1224 1583 362 (by decide +kernel) rfl rfl ⟨fun q82 => ?_, fun q82 => ?_⟩
            · replace F := F.1 q82
              refine zIinc 4 6 4 (l4 + 6) [(4, .int (l4 + 6)), (0, .ref (G.2.2.2.2.2.1 3)), (1, .ref (x)), (2, .ref (m)), (3, .ref (o))] 1586 (by decide +kernel) rfl rfl (by rfl) (by decide) rfl ?_
              refine zGoto (-1563) 23 (by decide +kernel) rfl ?_
              exact zLoc [1, 2, 3, 4, 0] _ rfl F
            · replace F := F.2 q82
              refine zIconst 0 0 363 (by decide +kernel) rfl (by decide) ?_
              exact zZret .boolean rfl (zNarZ (Or.inl rfl)) (by decide +kernel) F
          · skip
            by_cases q83 : ((G.2.2.2.2.2.2.2 l4.toNatClampNeg) &&& 63) = 4
            · replace F := F.2.2.2.2.1 q83
              have zt := zEqT q83 (show (4 : Int32).toInt = 4 by decide)
              refine zTableIn 1543 0 39 #[176, 249, 274, 299, 324, 392, 429, 454, 479, 504, 541, 566, 615, 640, 665, 678, 747, 760, 797, 846, 883, 908, 945, 970, 1007, 1032, 1097, 1134, 1159, 1172, 1209, 1246, 1319, 1368, 1405, 1442, 1467, 1492, 1505, 1518] 176 324 364 (by decide +kernel) (by omega) (by omega) (by rw [zt]; decide) rfl ?_
              refine zAload_n 1 1 365 (by decide +kernel) rfl rfl ?_
              refine zAload_n 0 0 366 (by decide +kernel) rfl rfl ?_
              refine zIload 4 4 368 (by decide +kernel) rfl rfl ?_
              refine zIconst 1 1 369 (by decide +kernel) rfl (by decide) ?_
              refine zIadd 370 (by decide +kernel) rfl ?_
              obtain ⟨w84, F⟩ := F
              refine zSaload 371 (by decide +kernel) rfl (w84) ?_
              refine zAload_n 0 0 372 (by decide +kernel) rfl rfl ?_
              refine zIload 4 4 374 (by decide +kernel) rfl rfl ?_
              refine zIconst 2 2 375 (by decide +kernel) rfl (by decide) ?_
              refine zIadd 376 (by decide +kernel) rfl ?_
              obtain ⟨w85, F⟩ := F
              refine zSaload 377 (by decide +kernel) rfl (w85) ?_
              refine zAload_n 3 3 378 (by decide +kernel) rfl rfl ?_
              refine zCallF 38 1 6 (kc + 3) (ks + 294) 381 [.ref (x), .int (G.2.2.2.2.2.2.2 (l4 + 1 : Int32).toNatClampNeg), .int (G.2.2.2.2.2.2.2 (l4 + 2 : Int32).toNatClampNeg), .ref (o)] [] mlL_38 (by decide +kernel) rfl rfl (Nat.le_of_ble_eq_true rfl) (by omega) (by omega) (fun l hl => zCF.mono F ?_ l hl)
              rintro _ _ ⟨x86, I87, J88, K89, n90, rfl, rfl, F⟩
              change zV G (d + 1) mL_law (kc + 3) (ks + 294) 381 [(0, .ref (G.2.2.2.2.2.1 3)), (1, .ref (x)), (2, .ref (m)), (3, .ref (o)), (4, .int (l4))] [.int (x86)] (I87, J88, R, K89, n90) Q
              obtain ⟨u91, u92, u93, S94, F⟩ := F
              obtain ⟨u95, u96, S97, F⟩ := F
              obtain ⟨S98, F⟩ := F
              refine zIstore 5 [(5, .int (x86)), (0, .ref (G.2.2.2.2.2.1 3)), (1, .ref (x)), (2, .ref (m)), (3, .ref (o)), (4, .int (l4))] 383 (by decide +kernel) rfl (by decide) rfl ?_
              refine zAload_n 2 3 384 (by decide +kernel) rfl rfl ?_
              refine zAload_n 0 1 385 (by decide +kernel) rfl rfl ?_
              refine zIload 4 5 387 (by decide +kernel) rfl rfl ?_
              refine zIconst 1 1 388 (by decide +kernel) rfl (by decide) ?_
              refine zIadd 389 (by decide +kernel) rfl ?_
              obtain ⟨w99, F⟩ := F
              refine zSaload 390 (by decide +kernel) rfl (w99) ?_
              refine zAload_n 0 1 391 (by decide +kernel) rfl rfl ?_
              refine zIload 4 5 393 (by decide +kernel) rfl rfl ?_
              refine zIconst 2 2 394 (by decide +kernel) rfl (by decide) ?_
              refine zIadd 395 (by decide +kernel) rfl ?_
              obtain ⟨w100, F⟩ := F
              refine zSaload 396 (by decide +kernel) rfl (w100) ?_
              refine zCallV 12 zcls12 mX12_farm 43 2 0 0 _ _ 399 [.int (G.2.2.2.2.2.2.2 (l4 + 1 : Int32).toNatClampNeg), .int (G.2.2.2.2.2.2.2 (l4 + 2 : Int32).toNatClampNeg)] [] okX12_farm mlL_43 imX12_farm seX12_farm (by decide +kernel) rfl rfl (Nat.le_of_ble_eq_true rfl) rfl rfl (Mod_0 S97) (zC.mono F ?_)
              rintro _ _ ⟨x101, I102, rfl, rfl, F⟩
              change zV G (d + 1) mL_law (kc + 3) (ks + 294) 399 [(5, .int (x86)), (0, .ref (G.2.2.2.2.2.1 3)), (1, .ref (x)), (2, .ref (m)), (3, .ref (o)), (4, .int (l4))] [.int (x101)] (I102, J88, R, K89, n90) Q
              refine zIstore 6 [(6, .int (x101)), (5, .int (x86)), (0, .ref (G.2.2.2.2.2.1 3)), (1, .ref (x)), (2, .ref (m)), (3, .ref (o)), (4, .int (l4))] 401 (by decide +kernel) rfl (by decide) rfl ?_
              refine zAload_n 2 4 402 (by decide +kernel) rfl rfl ?_
              refine zCallV 12 zcls12 mX12_thrown 44 0 0 0 _ _ 405 [] [] okX12_thrown mlL_44 imX12_thrown seX12_thrown (by decide +kernel) rfl rfl (Nat.le_of_ble_eq_true rfl) rfl rfl (Mod_0 S97) (zC.mono F ?_)
              rintro _ _ ⟨x103, I104, rfl, rfl, F⟩
              change zV G (d + 1) mL_law (kc + 3) (ks + 294) 405 [(6, .int (x101)), (5, .int (x86)), (0, .ref (G.2.2.2.2.2.1 3)), (1, .ref (x)), (2, .ref (m)), (3, .ref (o)), (4, .int (l4))] [.int (x103)] (I104, J88, R, K89, n90) Q
              refine zIload 5 1 407 (by decide +kernel) rfl rfl ?_
              refine zIcmp_eq 5 412 410 (by decide +kernel) rfl rfl ⟨fun q105 => ?_, fun q105 => ?_⟩
              · replace F := F.1 q105
                refine zIload 5 1 414 (by decide +kernel) rfl rfl ?_
                refine zIf_ne 15 429 417 (by decide +kernel) rfl rfl ⟨fun q106 => ?_, fun q106 => ?_⟩
                · replace F := F.2 q106
                  refine zGoto 1154 1583 (by decide +kernel) rfl ?_
                  refine zIinc 4 6 6 (l4 + 6) [(4, .int (l4 + 6)), (6, .int (x101)), (5, .int (x86)), (0, .ref (G.2.2.2.2.2.1 3)), (1, .ref (x)), (2, .ref (m)), (3, .ref (o))] 1586 (by decide +kernel) rfl rfl (by rfl) (by decide) rfl ?_
                  refine zGoto (-1563) 23 (by decide +kernel) rfl ?_
                  exact zLoc [3, 4, 5, 6, 0] _ rfl F
                · replace F := F.1 q106
                  refine zAload_n 3 5 418 (by decide +kernel) rfl rfl ?_
                  refine zIconst 0 0 419 (by decide +kernel) rfl (by decide) ?_
                  obtain ⟨w107, F⟩ := F
                  refine yLaload 1 420 (by decide +kernel) rfl (Out_0 S98) (w107) ?_
                  refine zIload 6 0 422 (by decide +kernel) rfl rfl ?_
                  refine zI2l 423 (by decide +kernel) rfl ?_
                  refine zLcmp 424 (by decide +kernel) rfl ?_
                  refine zIf_eq 5 429 427 (by decide +kernel) rfl rfl ⟨fun q108 => ?_, fun q108 => ?_⟩
                  · replace F := F.1 q108
                    refine zGoto 1154 1583 (by decide +kernel) rfl ?_
                    refine zIinc 4 6 6 (l4 + 6) [(4, .int (l4 + 6)), (6, .int (x101)), (5, .int (x86)), (0, .ref (G.2.2.2.2.2.1 3)), (1, .ref (x)), (2, .ref (m)), (3, .ref (o))] 1586 (by decide +kernel) rfl rfl (by rfl) (by decide) rfl ?_
                    refine zGoto (-1563) 23 (by decide +kernel) rfl ?_
                    exact zLoc [3, 4, 5, 6, 0] _ rfl F
                  · replace F := F.2 q108
                    refine zIconst 0 0 428 (by decide +kernel) rfl (by decide) ?_
                    exact zZret .boolean rfl (zNarZ (Or.inl rfl)) (by decide +kernel) F
              · replace F := F.2 q105
                refine zIconst 0 0 411 (by decide +kernel) rfl (by decide) ?_
                exact zZret .boolean rfl (zNarZ (Or.inl rfl)) (by decide +kernel) F
            · skip
              by_cases q109 : ((G.2.2.2.2.2.2.2 l4.toNatClampNeg) &&& 63) = 5
              · replace F := F.2.2.2.2.2.1 q109
                have zt := zEqT q109 (show (5 : Int32).toInt = 5 by decide)
                refine zTableIn 1543 0 39 #[176, 249, 274, 299, 324, 392, 429, 454, 479, 504, 541, 566, 615, 640, 665, 678, 747, 760, 797, 846, 883, 908, 945, 970, 1007, 1032, 1097, 1134, 1159, 1172, 1209, 1246, 1319, 1368, 1405, 1442, 1467, 1492, 1505, 1518] 176 392 432 (by decide +kernel) (by omega) (by omega) (by rw [zt]; decide) rfl ?_
                refine zAload_n 1 1 433 (by decide +kernel) rfl rfl ?_
                refine zAload_n 0 0 434 (by decide +kernel) rfl rfl ?_
                refine zIload 4 4 436 (by decide +kernel) rfl rfl ?_
                refine zIconst 1 1 437 (by decide +kernel) rfl (by decide) ?_
                refine zIadd 438 (by decide +kernel) rfl ?_
                obtain ⟨w110, F⟩ := F
                refine zSaload 439 (by decide +kernel) rfl (w110) ?_
                refine zAload_n 0 0 440 (by decide +kernel) rfl rfl ?_
                refine zIload 4 4 442 (by decide +kernel) rfl rfl ?_
                refine zIconst 2 2 443 (by decide +kernel) rfl (by decide) ?_
                refine zIadd 444 (by decide +kernel) rfl ?_
                obtain ⟨w111, F⟩ := F
                refine zSaload 445 (by decide +kernel) rfl (w111) ?_
                refine zCallV 11 zcls11 mX11_wrong 48 2 0 0 _ _ 448 [.int (G.2.2.2.2.2.2.2 (l4 + 1 : Int32).toNatClampNeg), .int (G.2.2.2.2.2.2.2 (l4 + 2 : Int32).toNatClampNeg)] [] okX11_wrong mlL_48 imX11_wrong seX11_wrong (by decide +kernel) rfl rfl (Nat.le_of_ble_eq_true rfl) rfl rfl (X_0 S0_) (zC.mono F ?_)
                rintro _ _ ⟨x112, I113, rfl, rfl, F⟩
                change zV G (d + 1) mL_law (kc + 4) (ks + 300) 448 [(0, .ref (G.2.2.2.2.2.1 3)), (1, .ref (x)), (2, .ref (m)), (3, .ref (o)), (4, .int (l4))] [.int (x112)] (I113, J, R, K, n) Q
                refine zAload_n 2 2 449 (by decide +kernel) rfl rfl ?_
                refine zAload_n 0 0 450 (by decide +kernel) rfl rfl ?_
                refine zIload 4 4 452 (by decide +kernel) rfl rfl ?_
                refine zIconst 1 1 453 (by decide +kernel) rfl (by decide) ?_
                refine zIadd 454 (by decide +kernel) rfl ?_
                obtain ⟨w114, F⟩ := F
                refine zSaload 455 (by decide +kernel) rfl (w114) ?_
                refine zAload_n 0 0 456 (by decide +kernel) rfl rfl ?_
                refine zIload 4 4 458 (by decide +kernel) rfl rfl ?_
                refine zIconst 2 2 459 (by decide +kernel) rfl (by decide) ?_
                refine zIadd 460 (by decide +kernel) rfl ?_
                obtain ⟨w115, F⟩ := F
                refine zSaload 461 (by decide +kernel) rfl (w115) ?_
                refine zCallV 12 zcls12 mX12_wrong 51 2 0 0 _ _ 464 [.int (G.2.2.2.2.2.2.2 (l4 + 1 : Int32).toNatClampNeg), .int (G.2.2.2.2.2.2.2 (l4 + 2 : Int32).toNatClampNeg)] [.int (x112)] okX12_wrong mlL_51 imX12_wrong seX12_wrong (by decide +kernel) rfl rfl (Nat.le_of_ble_eq_true rfl) rfl rfl (Mod_0 S1_) (zC.mono F ?_)
                rintro _ _ ⟨x116, I117, J118, R119, rfl, rfl, F⟩
                change zV G (d + 1) mL_law (kc + 4) (ks + 300) 464 [(0, .ref (G.2.2.2.2.2.1 3)), (1, .ref (x)), (2, .ref (m)), (3, .ref (o)), (4, .int (l4))] [.int (x116), .int (x112)] (I117, J118, R119, K, n) Q
                obtain ⟨u120, u121, u122, S123, F⟩ := F
                obtain ⟨u124, u125, S126, F⟩ := F
                obtain ⟨S127, F⟩ := F
                refine zIcmp_eq 1119 1583 467 (by decide +kernel) rfl rfl ⟨fun q128 => ?_, fun q128 => ?_⟩
                · replace F := F.1 q128
                  refine zIinc 4 6 4 (l4 + 6) [(4, .int (l4 + 6)), (0, .ref (G.2.2.2.2.2.1 3)), (1, .ref (x)), (2, .ref (m)), (3, .ref (o))] 1586 (by decide +kernel) rfl rfl (by rfl) (by decide) rfl ?_
                  refine zGoto (-1563) 23 (by decide +kernel) rfl ?_
                  exact zLoc [1, 2, 3, 4, 0] _ rfl F
                · replace F := F.2 q128
                  refine zIconst 0 0 468 (by decide +kernel) rfl (by decide) ?_
                  exact zZret .boolean rfl (zNarZ (Or.inl rfl)) (by decide +kernel) F
              · skip
                by_cases q129 : ((G.2.2.2.2.2.2.2 l4.toNatClampNeg) &&& 63) = 6
                · replace F := F.2.2.2.2.2.2.1 q129
                  have zt := zEqT q129 (show (6 : Int32).toInt = 6 by decide)
                  refine zTableIn 1543 0 39 #[176, 249, 274, 299, 324, 392, 429, 454, 479, 504, 541, 566, 615, 640, 665, 678, 747, 760, 797, 846, 883, 908, 945, 970, 1007, 1032, 1097, 1134, 1159, 1172, 1209, 1246, 1319, 1368, 1405, 1442, 1467, 1492, 1505, 1518] 176 429 469 (by decide +kernel) (by omega) (by omega) (by rw [zt]; decide) rfl ?_
                  refine zAload_n 1 1 470 (by decide +kernel) rfl rfl ?_
                  refine zAload_n 0 0 471 (by decide +kernel) rfl rfl ?_
                  refine zIload 4 4 473 (by decide +kernel) rfl rfl ?_
                  refine zIconst 1 1 474 (by decide +kernel) rfl (by decide) ?_
                  refine zIadd 475 (by decide +kernel) rfl ?_
                  obtain ⟨w130, F⟩ := F
                  refine zSaload 476 (by decide +kernel) rfl (w130) ?_
                  refine zCallV 11 zcls11 mX11_law 52 1 0 0 _ _ 479 [.int (G.2.2.2.2.2.2.2 (l4 + 1 : Int32).toNatClampNeg)] [] okX11_law mlL_52 imX11_law seX11_law (by decide +kernel) rfl rfl (Nat.le_of_ble_eq_true rfl) rfl rfl (X_0 S0_) (zC.mono F ?_)
                  rintro _ _ ⟨x131, I132, R133, rfl, rfl, F⟩
                  change zV G (d + 1) mL_law (kc + 4) (ks + 300) 479 [(0, .ref (G.2.2.2.2.2.1 3)), (1, .ref (x)), (2, .ref (m)), (3, .ref (o)), (4, .int (l4))] [.int (x131)] (I132, J, R133, K, n) Q
                  obtain ⟨u134, u135, u136, S137, F⟩ := F
                  obtain ⟨u138, u139, S140, F⟩ := F
                  obtain ⟨S141, F⟩ := F
                  refine zAload_n 2 2 480 (by decide +kernel) rfl rfl ?_
                  refine zAload_n 0 0 481 (by decide +kernel) rfl rfl ?_
                  refine zIload 4 4 483 (by decide +kernel) rfl rfl ?_
                  refine zIconst 1 1 484 (by decide +kernel) rfl (by decide) ?_
                  refine zIadd 485 (by decide +kernel) rfl ?_
                  obtain ⟨w142, F⟩ := F
                  refine zSaload 486 (by decide +kernel) rfl (w142) ?_
                  refine zCallV 12 zcls12 mX12_law 55 1 0 0 _ _ 489 [.int (G.2.2.2.2.2.2.2 (l4 + 1 : Int32).toNatClampNeg)] [.int (x131)] okX12_law mlL_55 imX12_law seX12_law (by decide +kernel) rfl rfl (Nat.le_of_ble_eq_true rfl) rfl rfl (Mod_0 S140) (zC.mono F ?_)
                  rintro _ _ ⟨x143, I144, rfl, rfl, F⟩
                  change zV G (d + 1) mL_law (kc + 4) (ks + 300) 489 [(0, .ref (G.2.2.2.2.2.1 3)), (1, .ref (x)), (2, .ref (m)), (3, .ref (o)), (4, .int (l4))] [.int (x143), .int (x131)] (I144, J, R133, K, n) Q
                  refine zIcmp_eq 1094 1583 492 (by decide +kernel) rfl rfl ⟨fun q145 => ?_, fun q145 => ?_⟩
                  · replace F := F.1 q145
                    refine zIinc 4 6 4 (l4 + 6) [(4, .int (l4 + 6)), (0, .ref (G.2.2.2.2.2.1 3)), (1, .ref (x)), (2, .ref (m)), (3, .ref (o))] 1586 (by decide +kernel) rfl rfl (by rfl) (by decide) rfl ?_
                    refine zGoto (-1563) 23 (by decide +kernel) rfl ?_
                    exact zLoc [1, 2, 3, 4, 0] _ rfl F
                  · replace F := F.2 q145
                    refine zIconst 0 0 493 (by decide +kernel) rfl (by decide) ?_
                    exact zZret .boolean rfl (zNarZ (Or.inl rfl)) (by decide +kernel) F
                · skip
                  by_cases q146 : ((G.2.2.2.2.2.2.2 l4.toNatClampNeg) &&& 63) = 7
                  · replace F := F.2.2.2.2.2.2.2.1 q146
                    have zt := zEqT q146 (show (7 : Int32).toInt = 7 by decide)
                    refine zTableIn 1543 0 39 #[176, 249, 274, 299, 324, 392, 429, 454, 479, 504, 541, 566, 615, 640, 665, 678, 747, 760, 797, 846, 883, 908, 945, 970, 1007, 1032, 1097, 1134, 1159, 1172, 1209, 1246, 1319, 1368, 1405, 1442, 1467, 1492, 1505, 1518] 176 454 494 (by decide +kernel) (by omega) (by omega) (by rw [zt]; decide) rfl ?_
                    refine zAload_n 1 1 495 (by decide +kernel) rfl rfl ?_
                    refine zAload_n 0 0 496 (by decide +kernel) rfl rfl ?_
                    refine zIload 4 4 498 (by decide +kernel) rfl rfl ?_
                    refine zIconst 1 1 499 (by decide +kernel) rfl (by decide) ?_
                    refine zIadd 500 (by decide +kernel) rfl ?_
                    obtain ⟨w147, F⟩ := F
                    refine zSaload 501 (by decide +kernel) rfl (w147) ?_
                    refine zCallV 11 zcls11 mX11_apples 56 1 0 0 _ _ 504 [.int (G.2.2.2.2.2.2.2 (l4 + 1 : Int32).toNatClampNeg)] [] okX11_apples mlL_56 imX11_apples seX11_apples (by decide +kernel) rfl rfl (Nat.le_of_ble_eq_true rfl) rfl rfl (X_0 S0_) (zC.mono F ?_)
                    rintro _ _ ⟨x148, I149, rfl, rfl, F⟩
                    change zV G (d + 1) mL_law (kc + 4) (ks + 300) 504 [(0, .ref (G.2.2.2.2.2.1 3)), (1, .ref (x)), (2, .ref (m)), (3, .ref (o)), (4, .int (l4))] [.int (x148)] (I149, J, R, K, n) Q
                    refine zAload_n 2 2 505 (by decide +kernel) rfl rfl ?_
                    refine zAload_n 0 0 506 (by decide +kernel) rfl rfl ?_
                    refine zIload 4 4 508 (by decide +kernel) rfl rfl ?_
                    refine zIconst 1 1 509 (by decide +kernel) rfl (by decide) ?_
                    refine zIadd 510 (by decide +kernel) rfl ?_
                    obtain ⟨w150, F⟩ := F
                    refine zSaload 511 (by decide +kernel) rfl (w150) ?_
                    refine zCallV 12 zcls12 mX12_apples 59 1 0 0 _ _ 514 [.int (G.2.2.2.2.2.2.2 (l4 + 1 : Int32).toNatClampNeg)] [.int (x148)] okX12_apples mlL_59 imX12_apples seX12_apples (by decide +kernel) rfl rfl (Nat.le_of_ble_eq_true rfl) rfl rfl (Mod_0 S1_) (zC.mono F ?_)
                    rintro _ _ ⟨x151, I152, rfl, rfl, F⟩
                    change zV G (d + 1) mL_law (kc + 4) (ks + 300) 514 [(0, .ref (G.2.2.2.2.2.1 3)), (1, .ref (x)), (2, .ref (m)), (3, .ref (o)), (4, .int (l4))] [.int (x151), .int (x148)] (I152, J, R, K, n) Q
                    refine zIcmp_eq 1069 1583 517 (by decide +kernel) rfl rfl ⟨fun q153 => ?_, fun q153 => ?_⟩
                    · replace F := F.1 q153
                      refine zIinc 4 6 4 (l4 + 6) [(4, .int (l4 + 6)), (0, .ref (G.2.2.2.2.2.1 3)), (1, .ref (x)), (2, .ref (m)), (3, .ref (o))] 1586 (by decide +kernel) rfl rfl (by rfl) (by decide) rfl ?_
                      refine zGoto (-1563) 23 (by decide +kernel) rfl ?_
                      exact zLoc [1, 2, 3, 4, 0] _ rfl F
                    · replace F := F.2 q153
                      refine zIconst 0 0 518 (by decide +kernel) rfl (by decide) ?_
                      exact zZret .boolean rfl (zNarZ (Or.inl rfl)) (by decide +kernel) F
                  · skip
                    by_cases q154 : ((G.2.2.2.2.2.2.2 l4.toNatClampNeg) &&& 63) = 8
                    · replace F := F.2.2.2.2.2.2.2.2.1 q154
                      have zt := zEqT q154 (show (8 : Int32).toInt = 8 by decide)
                      refine zTableIn 1543 0 39 #[176, 249, 274, 299, 324, 392, 429, 454, 479, 504, 541, 566, 615, 640, 665, 678, 747, 760, 797, 846, 883, 908, 945, 970, 1007, 1032, 1097, 1134, 1159, 1172, 1209, 1246, 1319, 1368, 1405, 1442, 1467, 1492, 1505, 1518] 176 479 519 (by decide +kernel) (by omega) (by omega) (by rw [zt]; decide) rfl ?_
                      refine zAload_n 1 1 520 (by decide +kernel) rfl rfl ?_
                      refine zAload_n 0 0 521 (by decide +kernel) rfl rfl ?_
                      refine zIload 4 4 523 (by decide +kernel) rfl rfl ?_
                      refine zIconst 1 1 524 (by decide +kernel) rfl (by decide) ?_
                      refine zIadd 525 (by decide +kernel) rfl ?_
                      obtain ⟨w155, F⟩ := F
                      refine zSaload 526 (by decide +kernel) rfl (w155) ?_
                      refine zCallV 11 zcls11 mX11_forgive 60 1 0 0 _ _ 529 [.int (G.2.2.2.2.2.2.2 (l4 + 1 : Int32).toNatClampNeg)] [] okX11_forgive mlL_60 imX11_forgive seX11_forgive (by decide +kernel) rfl rfl (Nat.le_of_ble_eq_true rfl) rfl rfl (X_0 S0_) (zC.mono F ?_)
                      rintro _ _ ⟨x156, I157, rfl, rfl, F⟩
                      change zV G (d + 1) mL_law (kc + 4) (ks + 300) 529 [(0, .ref (G.2.2.2.2.2.1 3)), (1, .ref (x)), (2, .ref (m)), (3, .ref (o)), (4, .int (l4))] [.int (x156)] (I157, J, R, K, n) Q
                      refine zAload_n 2 2 530 (by decide +kernel) rfl rfl ?_
                      refine zAload_n 0 0 531 (by decide +kernel) rfl rfl ?_
                      refine zIload 4 4 533 (by decide +kernel) rfl rfl ?_
                      refine zIconst 1 1 534 (by decide +kernel) rfl (by decide) ?_
                      refine zIadd 535 (by decide +kernel) rfl ?_
                      obtain ⟨w158, F⟩ := F
                      refine zSaload 536 (by decide +kernel) rfl (w158) ?_
                      refine zCallV 12 zcls12 mX12_forgive 63 1 0 0 _ _ 539 [.int (G.2.2.2.2.2.2.2 (l4 + 1 : Int32).toNatClampNeg)] [.int (x156)] okX12_forgive mlL_63 imX12_forgive seX12_forgive (by decide +kernel) rfl rfl (Nat.le_of_ble_eq_true rfl) rfl rfl (Mod_0 S1_) (zC.mono F ?_)
                      rintro _ _ ⟨x159, I160, J161, R162, rfl, rfl, F⟩
                      change zV G (d + 1) mL_law (kc + 4) (ks + 300) 539 [(0, .ref (G.2.2.2.2.2.1 3)), (1, .ref (x)), (2, .ref (m)), (3, .ref (o)), (4, .int (l4))] [.int (x159), .int (x156)] (I160, J161, R162, K, n) Q
                      obtain ⟨u163, u164, u165, S166, F⟩ := F
                      obtain ⟨u167, u168, S169, F⟩ := F
                      obtain ⟨S170, F⟩ := F
                      refine zIcmp_eq 1044 1583 542 (by decide +kernel) rfl rfl ⟨fun q171 => ?_, fun q171 => ?_⟩
                      · replace F := F.1 q171
                        refine zIinc 4 6 4 (l4 + 6) [(4, .int (l4 + 6)), (0, .ref (G.2.2.2.2.2.1 3)), (1, .ref (x)), (2, .ref (m)), (3, .ref (o))] 1586 (by decide +kernel) rfl rfl (by rfl) (by decide) rfl ?_
                        refine zGoto (-1563) 23 (by decide +kernel) rfl ?_
                        exact zLoc [1, 2, 3, 4, 0] _ rfl F
                      · replace F := F.2 q171
                        refine zIconst 0 0 543 (by decide +kernel) rfl (by decide) ?_
                        exact zZret .boolean rfl (zNarZ (Or.inl rfl)) (by decide +kernel) F
                    · skip
                      by_cases q172 : ((G.2.2.2.2.2.2.2 l4.toNatClampNeg) &&& 63) = 9
                      · replace F := F.2.2.2.2.2.2.2.2.2.1 q172
                        have zt := zEqT q172 (show (9 : Int32).toInt = 9 by decide)
                        refine zTableIn 1543 0 39 #[176, 249, 274, 299, 324, 392, 429, 454, 479, 504, 541, 566, 615, 640, 665, 678, 747, 760, 797, 846, 883, 908, 945, 970, 1007, 1032, 1097, 1134, 1159, 1172, 1209, 1246, 1319, 1368, 1405, 1442, 1467, 1492, 1505, 1518] 176 504 544 (by decide +kernel) (by omega) (by omega) (by rw [zt]; decide) rfl ?_
                        refine zAload_n 1 1 545 (by decide +kernel) rfl rfl ?_
                        refine zAload_n 0 0 546 (by decide +kernel) rfl rfl ?_
                        refine zIload 4 4 548 (by decide +kernel) rfl rfl ?_
                        refine zIconst 1 1 549 (by decide +kernel) rfl (by decide) ?_
                        refine zIadd 550 (by decide +kernel) rfl ?_
                        obtain ⟨w173, F⟩ := F
                        refine zSaload 551 (by decide +kernel) rfl (w173) ?_
                        refine zAload_n 0 0 552 (by decide +kernel) rfl rfl ?_
                        refine zIload 4 4 554 (by decide +kernel) rfl rfl ?_
                        refine zIconst 2 2 555 (by decide +kernel) rfl (by decide) ?_
                        refine zIadd 556 (by decide +kernel) rfl ?_
                        obtain ⟨w174, F⟩ := F
                        refine zSaload 557 (by decide +kernel) rfl (w174) ?_
                        refine zCallV 11 zcls11 mX11_paint 64 2 0 0 _ _ 560 [.int (G.2.2.2.2.2.2.2 (l4 + 1 : Int32).toNatClampNeg), .int (G.2.2.2.2.2.2.2 (l4 + 2 : Int32).toNatClampNeg)] [] okX11_paint mlL_64 imX11_paint seX11_paint (by decide +kernel) rfl rfl (Nat.le_of_ble_eq_true rfl) rfl rfl (X_0 S0_) (zC.mono F ?_)
                        rintro _ _ ⟨x175, I176, rfl, rfl, F⟩
                        change zV G (d + 1) mL_law (kc + 4) (ks + 300) 560 [(0, .ref (G.2.2.2.2.2.1 3)), (1, .ref (x)), (2, .ref (m)), (3, .ref (o)), (4, .int (l4))] [.int (x175)] (I176, J, R, K, n) Q
                        refine zAload_n 2 2 561 (by decide +kernel) rfl rfl ?_
                        refine zAload_n 0 0 562 (by decide +kernel) rfl rfl ?_
                        refine zIload 4 4 564 (by decide +kernel) rfl rfl ?_
                        refine zIconst 1 1 565 (by decide +kernel) rfl (by decide) ?_
                        refine zIadd 566 (by decide +kernel) rfl ?_
                        obtain ⟨w177, F⟩ := F
                        refine zSaload 567 (by decide +kernel) rfl (w177) ?_
                        refine zAload_n 0 0 568 (by decide +kernel) rfl rfl ?_
                        refine zIload 4 4 570 (by decide +kernel) rfl rfl ?_
                        refine zIconst 2 2 571 (by decide +kernel) rfl (by decide) ?_
                        refine zIadd 572 (by decide +kernel) rfl ?_
                        obtain ⟨w178, F⟩ := F
                        refine zSaload 573 (by decide +kernel) rfl (w178) ?_
                        refine zCallV 12 zcls12 mX12_paint 67 2 0 0 _ _ 576 [.int (G.2.2.2.2.2.2.2 (l4 + 1 : Int32).toNatClampNeg), .int (G.2.2.2.2.2.2.2 (l4 + 2 : Int32).toNatClampNeg)] [.int (x175)] okX12_paint mlL_67 imX12_paint seX12_paint (by decide +kernel) rfl rfl (Nat.le_of_ble_eq_true rfl) rfl rfl (Mod_0 S1_) (zC.mono F ?_)
                        rintro _ _ ⟨x179, I180, rfl, rfl, F⟩
                        change zV G (d + 1) mL_law (kc + 4) (ks + 300) 576 [(0, .ref (G.2.2.2.2.2.1 3)), (1, .ref (x)), (2, .ref (m)), (3, .ref (o)), (4, .int (l4))] [.int (x179), .int (x175)] (I180, J, R, K, n) Q
                        refine zIcmp_eq 1007 1583 579 (by decide +kernel) rfl rfl ⟨fun q181 => ?_, fun q181 => ?_⟩
                        · replace F := F.1 q181
                          refine zIinc 4 6 4 (l4 + 6) [(4, .int (l4 + 6)), (0, .ref (G.2.2.2.2.2.1 3)), (1, .ref (x)), (2, .ref (m)), (3, .ref (o))] 1586 (by decide +kernel) rfl rfl (by rfl) (by decide) rfl ?_
                          refine zGoto (-1563) 23 (by decide +kernel) rfl ?_
                          exact zLoc [1, 2, 3, 4, 0] _ rfl F
                        · replace F := F.2 q181
                          refine zIconst 0 0 580 (by decide +kernel) rfl (by decide) ?_
                          exact zZret .boolean rfl (zNarZ (Or.inl rfl)) (by decide +kernel) F
                      · skip
                        by_cases q182 : ((G.2.2.2.2.2.2.2 l4.toNatClampNeg) &&& 63) = 10
                        · replace F := F.2.2.2.2.2.2.2.2.2.2.1 q182
                          have zt := zEqT q182 (show (10 : Int32).toInt = 10 by decide)
                          refine zTableIn 1543 0 39 #[176, 249, 274, 299, 324, 392, 429, 454, 479, 504, 541, 566, 615, 640, 665, 678, 747, 760, 797, 846, 883, 908, 945, 970, 1007, 1032, 1097, 1134, 1159, 1172, 1209, 1246, 1319, 1368, 1405, 1442, 1467, 1492, 1505, 1518] 176 541 581 (by decide +kernel) (by omega) (by omega) (by rw [zt]; decide) rfl ?_
                          refine zAload_n 1 1 582 (by decide +kernel) rfl rfl ?_
                          refine zAload_n 0 0 583 (by decide +kernel) rfl rfl ?_
                          refine zIload 4 4 585 (by decide +kernel) rfl rfl ?_
                          refine zIconst 1 1 586 (by decide +kernel) rfl (by decide) ?_
                          refine zIadd 587 (by decide +kernel) rfl ?_
                          obtain ⟨w183, F⟩ := F
                          refine zSaload 588 (by decide +kernel) rfl (w183) ?_
                          refine zCallV 11 zcls11 mX11_inspect 68 1 0 0 _ _ 591 [.int (G.2.2.2.2.2.2.2 (l4 + 1 : Int32).toNatClampNeg)] [] okX11_inspect mlL_68 imX11_inspect seX11_inspect (by decide +kernel) rfl rfl (Nat.le_of_ble_eq_true rfl) rfl rfl (X_0 S0_) (zC.mono F ?_)
                          rintro _ _ ⟨x184, I185, rfl, rfl, F⟩
                          change zV G (d + 1) mL_law (kc + 4) (ks + 300) 591 [(0, .ref (G.2.2.2.2.2.1 3)), (1, .ref (x)), (2, .ref (m)), (3, .ref (o)), (4, .int (l4))] [.int (x184)] (I185, J, R, K, n) Q
                          refine zAload_n 2 2 592 (by decide +kernel) rfl rfl ?_
                          refine zAload_n 0 0 593 (by decide +kernel) rfl rfl ?_
                          refine zIload 4 4 595 (by decide +kernel) rfl rfl ?_
                          refine zIconst 1 1 596 (by decide +kernel) rfl (by decide) ?_
                          refine zIadd 597 (by decide +kernel) rfl ?_
                          obtain ⟨w186, F⟩ := F
                          refine zSaload 598 (by decide +kernel) rfl (w186) ?_
                          refine zCallV 12 zcls12 mX12_inspect 71 1 0 0 _ _ 601 [.int (G.2.2.2.2.2.2.2 (l4 + 1 : Int32).toNatClampNeg)] [.int (x184)] okX12_inspect mlL_71 imX12_inspect seX12_inspect (by decide +kernel) rfl rfl (Nat.le_of_ble_eq_true rfl) rfl rfl (Mod_0 S1_) (zC.mono F ?_)
                          rintro _ _ ⟨x187, I188, rfl, rfl, F⟩
                          change zV G (d + 1) mL_law (kc + 4) (ks + 300) 601 [(0, .ref (G.2.2.2.2.2.1 3)), (1, .ref (x)), (2, .ref (m)), (3, .ref (o)), (4, .int (l4))] [.int (x187), .int (x184)] (I188, J, R, K, n) Q
                          refine zIcmp_eq 982 1583 604 (by decide +kernel) rfl rfl ⟨fun q189 => ?_, fun q189 => ?_⟩
                          · replace F := F.1 q189
                            refine zIinc 4 6 4 (l4 + 6) [(4, .int (l4 + 6)), (0, .ref (G.2.2.2.2.2.1 3)), (1, .ref (x)), (2, .ref (m)), (3, .ref (o))] 1586 (by decide +kernel) rfl rfl (by rfl) (by decide) rfl ?_
                            refine zGoto (-1563) 23 (by decide +kernel) rfl ?_
                            exact zLoc [1, 2, 3, 4, 0] _ rfl F
                          · replace F := F.2 q189
                            refine zIconst 0 0 605 (by decide +kernel) rfl (by decide) ?_
                            exact zZret .boolean rfl (zNarZ (Or.inl rfl)) (by decide +kernel) F
                        · skip
                          by_cases q190 : ((G.2.2.2.2.2.2.2 l4.toNatClampNeg) &&& 63) = 11
                          · replace F := F.2.2.2.2.2.2.2.2.2.2.2.1 q190
                            have zt := zEqT q190 (show (11 : Int32).toInt = 11 by decide)
                            refine zTableIn 1543 0 39 #[176, 249, 274, 299, 324, 392, 429, 454, 479, 504, 541, 566, 615, 640, 665, 678, 747, 760, 797, 846, 883, 908, 945, 970, 1007, 1032, 1097, 1134, 1159, 1172, 1209, 1246, 1319, 1368, 1405, 1442, 1467, 1492, 1505, 1518] 176 566 606 (by decide +kernel) (by omega) (by omega) (by rw [zt]; decide) rfl ?_
                            refine zAload_n 1 1 607 (by decide +kernel) rfl rfl ?_
                            refine zAload_n 0 0 608 (by decide +kernel) rfl rfl ?_
                            refine zIload 4 4 610 (by decide +kernel) rfl rfl ?_
                            refine zIconst 1 1 611 (by decide +kernel) rfl (by decide) ?_
                            refine zIadd 612 (by decide +kernel) rfl ?_
                            obtain ⟨w191, F⟩ := F
                            refine zSaload 613 (by decide +kernel) rfl (w191) ?_
                            refine zAload_n 0 0 614 (by decide +kernel) rfl rfl ?_
                            refine zIload 4 4 616 (by decide +kernel) rfl rfl ?_
                            refine zIconst 2 2 617 (by decide +kernel) rfl (by decide) ?_
                            refine zIadd 618 (by decide +kernel) rfl ?_
                            obtain ⟨w192, F⟩ := F
                            refine zSaload 619 (by decide +kernel) rfl (w192) ?_
                            refine zAload_n 0 0 620 (by decide +kernel) rfl rfl ?_
                            refine zIload 4 4 622 (by decide +kernel) rfl rfl ?_
                            refine zIconst 3 3 623 (by decide +kernel) rfl (by decide) ?_
                            refine zIadd 624 (by decide +kernel) rfl ?_
                            obtain ⟨w193, F⟩ := F
                            refine zSaload 625 (by decide +kernel) rfl (w193) ?_
                            refine zCallV 11 zcls11 mX11_sin 72 3 0 0 _ _ 628 [.int (G.2.2.2.2.2.2.2 (l4 + 1 : Int32).toNatClampNeg), .int (G.2.2.2.2.2.2.2 (l4 + 2 : Int32).toNatClampNeg), .int (G.2.2.2.2.2.2.2 (l4 + 3 : Int32).toNatClampNeg)] [] okX11_sin mlL_72 imX11_sin seX11_sin (by decide +kernel) rfl rfl (Nat.le_of_ble_eq_true rfl) rfl rfl (X_0 S0_) (zC.mono F ?_)
                            rintro _ _ ⟨x194, I195, rfl, rfl, F⟩
                            change zV G (d + 1) mL_law (kc + 4) (ks + 300) 628 [(0, .ref (G.2.2.2.2.2.1 3)), (1, .ref (x)), (2, .ref (m)), (3, .ref (o)), (4, .int (l4))] [.int (x194)] (I195, J, R, K, n) Q
                            refine zAload_n 2 2 629 (by decide +kernel) rfl rfl ?_
                            refine zAload_n 0 0 630 (by decide +kernel) rfl rfl ?_
                            refine zIload 4 4 632 (by decide +kernel) rfl rfl ?_
                            refine zIconst 1 1 633 (by decide +kernel) rfl (by decide) ?_
                            refine zIadd 634 (by decide +kernel) rfl ?_
                            obtain ⟨w196, F⟩ := F
                            refine zSaload 635 (by decide +kernel) rfl (w196) ?_
                            refine zAload_n 0 0 636 (by decide +kernel) rfl rfl ?_
                            refine zIload 4 4 638 (by decide +kernel) rfl rfl ?_
                            refine zIconst 2 2 639 (by decide +kernel) rfl (by decide) ?_
                            refine zIadd 640 (by decide +kernel) rfl ?_
                            obtain ⟨w197, F⟩ := F
                            refine zSaload 641 (by decide +kernel) rfl (w197) ?_
                            refine zAload_n 0 0 642 (by decide +kernel) rfl rfl ?_
                            refine zIload 4 4 644 (by decide +kernel) rfl rfl ?_
                            refine zIconst 3 3 645 (by decide +kernel) rfl (by decide) ?_
                            refine zIadd 646 (by decide +kernel) rfl ?_
                            obtain ⟨w198, F⟩ := F
                            refine zSaload 647 (by decide +kernel) rfl (w198) ?_
                            refine zCallV 12 zcls12 mX12_sin 76 3 0 0 _ _ 650 [.int (G.2.2.2.2.2.2.2 (l4 + 1 : Int32).toNatClampNeg), .int (G.2.2.2.2.2.2.2 (l4 + 2 : Int32).toNatClampNeg), .int (G.2.2.2.2.2.2.2 (l4 + 3 : Int32).toNatClampNeg)] [.int (x194)] okX12_sin mlL_76 imX12_sin seX12_sin (by decide +kernel) rfl rfl (Nat.le_of_ble_eq_true rfl) rfl rfl (Mod_0 S1_) (zC.mono F ?_)
                            rintro _ _ ⟨x199, I200, rfl, rfl, F⟩
                            change zV G (d + 1) mL_law (kc + 4) (ks + 300) 650 [(0, .ref (G.2.2.2.2.2.1 3)), (1, .ref (x)), (2, .ref (m)), (3, .ref (o)), (4, .int (l4))] [.int (x199), .int (x194)] (I200, J, R, K, n) Q
                            refine zIcmp_eq 933 1583 653 (by decide +kernel) rfl rfl ⟨fun q201 => ?_, fun q201 => ?_⟩
                            · replace F := F.1 q201
                              refine zIinc 4 6 4 (l4 + 6) [(4, .int (l4 + 6)), (0, .ref (G.2.2.2.2.2.1 3)), (1, .ref (x)), (2, .ref (m)), (3, .ref (o))] 1586 (by decide +kernel) rfl rfl (by rfl) (by decide) rfl ?_
                              refine zGoto (-1563) 23 (by decide +kernel) rfl ?_
                              exact zLoc [1, 2, 3, 4, 0] _ rfl F
                            · replace F := F.2 q201
                              refine zIconst 0 0 654 (by decide +kernel) rfl (by decide) ?_
                              exact zZret .boolean rfl (zNarZ (Or.inl rfl)) (by decide +kernel) F
                          · skip
                            by_cases q202 : ((G.2.2.2.2.2.2.2 l4.toNatClampNeg) &&& 63) = 12
                            · replace F := F.2.2.2.2.2.2.2.2.2.2.2.2.1 q202
                              have zt := zEqT q202 (show (12 : Int32).toInt = 12 by decide)
                              refine zTableIn 1543 0 39 #[176, 249, 274, 299, 324, 392, 429, 454, 479, 504, 541, 566, 615, 640, 665, 678, 747, 760, 797, 846, 883, 908, 945, 970, 1007, 1032, 1097, 1134, 1159, 1172, 1209, 1246, 1319, 1368, 1405, 1442, 1467, 1492, 1505, 1518] 176 615 655 (by decide +kernel) (by omega) (by omega) (by rw [zt]; decide) rfl ?_
                              refine zAload_n 1 1 656 (by decide +kernel) rfl rfl ?_
                              refine zAload_n 0 0 657 (by decide +kernel) rfl rfl ?_
                              refine zIload 4 4 659 (by decide +kernel) rfl rfl ?_
                              refine zIconst 1 1 660 (by decide +kernel) rfl (by decide) ?_
                              refine zIadd 661 (by decide +kernel) rfl ?_
                              obtain ⟨w203, F⟩ := F
                              refine zSaload 662 (by decide +kernel) rfl (w203) ?_
                              refine zCallV 11 zcls11 mX11_buy 77 1 0 0 _ _ 665 [.int (G.2.2.2.2.2.2.2 (l4 + 1 : Int32).toNatClampNeg)] [] okX11_buy mlL_77 imX11_buy seX11_buy (by decide +kernel) rfl rfl (Nat.le_of_ble_eq_true rfl) rfl rfl (X_0 S0_) (zC.mono F ?_)
                              rintro _ _ ⟨x204, I205, rfl, rfl, F⟩
                              change zV G (d + 1) mL_law (kc + 4) (ks + 300) 665 [(0, .ref (G.2.2.2.2.2.1 3)), (1, .ref (x)), (2, .ref (m)), (3, .ref (o)), (4, .int (l4))] [.int (x204)] (I205, J, R, K, n) Q
                              refine zAload_n 2 2 666 (by decide +kernel) rfl rfl ?_
                              refine zAload_n 0 0 667 (by decide +kernel) rfl rfl ?_
                              refine zIload 4 4 669 (by decide +kernel) rfl rfl ?_
                              refine zIconst 1 1 670 (by decide +kernel) rfl (by decide) ?_
                              refine zIadd 671 (by decide +kernel) rfl ?_
                              obtain ⟨w206, F⟩ := F
                              refine zSaload 672 (by decide +kernel) rfl (w206) ?_
                              refine zCallV 12 zcls12 mX12_buy 80 1 0 0 _ _ 675 [.int (G.2.2.2.2.2.2.2 (l4 + 1 : Int32).toNatClampNeg)] [.int (x204)] okX12_buy mlL_80 imX12_buy seX12_buy (by decide +kernel) rfl rfl (Nat.le_of_ble_eq_true rfl) rfl rfl (Mod_0 S1_) (zC.mono F ?_)
                              rintro _ _ ⟨x207, I208, rfl, rfl, F⟩
                              change zV G (d + 1) mL_law (kc + 4) (ks + 300) 675 [(0, .ref (G.2.2.2.2.2.1 3)), (1, .ref (x)), (2, .ref (m)), (3, .ref (o)), (4, .int (l4))] [.int (x207), .int (x204)] (I208, J, R, K, n) Q
                              refine zIcmp_eq 908 1583 678 (by decide +kernel) rfl rfl ⟨fun q209 => ?_, fun q209 => ?_⟩
                              · replace F := F.1 q209
                                refine zIinc 4 6 4 (l4 + 6) [(4, .int (l4 + 6)), (0, .ref (G.2.2.2.2.2.1 3)), (1, .ref (x)), (2, .ref (m)), (3, .ref (o))] 1586 (by decide +kernel) rfl rfl (by rfl) (by decide) rfl ?_
                                refine zGoto (-1563) 23 (by decide +kernel) rfl ?_
                                exact zLoc [1, 2, 3, 4, 0] _ rfl F
                              · replace F := F.2 q209
                                refine zIconst 0 0 679 (by decide +kernel) rfl (by decide) ?_
                                exact zZret .boolean rfl (zNarZ (Or.inl rfl)) (by decide +kernel) F
                            · skip
                              by_cases q210 : ((G.2.2.2.2.2.2.2 l4.toNatClampNeg) &&& 63) = 13
                              · replace F := F.2.2.2.2.2.2.2.2.2.2.2.2.2.1 q210
                                have zt := zEqT q210 (show (13 : Int32).toInt = 13 by decide)
                                refine zTableIn 1543 0 39 #[176, 249, 274, 299, 324, 392, 429, 454, 479, 504, 541, 566, 615, 640, 665, 678, 747, 760, 797, 846, 883, 908, 945, 970, 1007, 1032, 1097, 1134, 1159, 1172, 1209, 1246, 1319, 1368, 1405, 1442, 1467, 1492, 1505, 1518] 176 640 680 (by decide +kernel) (by omega) (by omega) (by rw [zt]; decide) rfl ?_
                                refine zAload_n 1 1 681 (by decide +kernel) rfl rfl ?_
                                refine zAload_n 0 0 682 (by decide +kernel) rfl rfl ?_
                                refine zIload 4 4 684 (by decide +kernel) rfl rfl ?_
                                refine zIconst 1 1 685 (by decide +kernel) rfl (by decide) ?_
                                refine zIadd 686 (by decide +kernel) rfl ?_
                                obtain ⟨w211, F⟩ := F
                                refine zSaload 687 (by decide +kernel) rfl (w211) ?_
                                refine zCallV 11 zcls11 mX11_give 81 1 0 0 _ _ 690 [.int (G.2.2.2.2.2.2.2 (l4 + 1 : Int32).toNatClampNeg)] [] okX11_give mlL_81 imX11_give seX11_give (by decide +kernel) rfl rfl (Nat.le_of_ble_eq_true rfl) rfl rfl (X_0 S0_) (zC.mono F ?_)
                                rintro _ _ ⟨x212, I213, rfl, rfl, F⟩
                                change zV G (d + 1) mL_law (kc + 4) (ks + 300) 690 [(0, .ref (G.2.2.2.2.2.1 3)), (1, .ref (x)), (2, .ref (m)), (3, .ref (o)), (4, .int (l4))] [.int (x212)] (I213, J, R, K, n) Q
                                refine zAload_n 2 2 691 (by decide +kernel) rfl rfl ?_
                                refine zAload_n 0 0 692 (by decide +kernel) rfl rfl ?_
                                refine zIload 4 4 694 (by decide +kernel) rfl rfl ?_
                                refine zIconst 1 1 695 (by decide +kernel) rfl (by decide) ?_
                                refine zIadd 696 (by decide +kernel) rfl ?_
                                obtain ⟨w214, F⟩ := F
                                refine zSaload 697 (by decide +kernel) rfl (w214) ?_
                                refine zCallV 12 zcls12 mX12_give 84 1 0 0 _ _ 700 [.int (G.2.2.2.2.2.2.2 (l4 + 1 : Int32).toNatClampNeg)] [.int (x212)] okX12_give mlL_84 imX12_give seX12_give (by decide +kernel) rfl rfl (Nat.le_of_ble_eq_true rfl) rfl rfl (Mod_0 S1_) (zC.mono F ?_)
                                rintro _ _ ⟨x215, I216, rfl, rfl, F⟩
                                change zV G (d + 1) mL_law (kc + 4) (ks + 300) 700 [(0, .ref (G.2.2.2.2.2.1 3)), (1, .ref (x)), (2, .ref (m)), (3, .ref (o)), (4, .int (l4))] [.int (x215), .int (x212)] (I216, J, R, K, n) Q
                                refine zIcmp_eq 883 1583 703 (by decide +kernel) rfl rfl ⟨fun q217 => ?_, fun q217 => ?_⟩
                                · replace F := F.1 q217
                                  refine zIinc 4 6 4 (l4 + 6) [(4, .int (l4 + 6)), (0, .ref (G.2.2.2.2.2.1 3)), (1, .ref (x)), (2, .ref (m)), (3, .ref (o))] 1586 (by decide +kernel) rfl rfl (by rfl) (by decide) rfl ?_
                                  refine zGoto (-1563) 23 (by decide +kernel) rfl ?_
                                  exact zLoc [1, 2, 3, 4, 0] _ rfl F
                                · replace F := F.2 q217
                                  refine zIconst 0 0 704 (by decide +kernel) rfl (by decide) ?_
                                  exact zZret .boolean rfl (zNarZ (Or.inl rfl)) (by decide +kernel) F
                              · skip
                                by_cases q218 : ((G.2.2.2.2.2.2.2 l4.toNatClampNeg) &&& 63) = 14
                                · replace F := F.2.2.2.2.2.2.2.2.2.2.2.2.2.2.1 q218
                                  have zt := zEqT q218 (show (14 : Int32).toInt = 14 by decide)
                                  refine zTableIn 1543 0 39 #[176, 249, 274, 299, 324, 392, 429, 454, 479, 504, 541, 566, 615, 640, 665, 678, 747, 760, 797, 846, 883, 908, 945, 970, 1007, 1032, 1097, 1134, 1159, 1172, 1209, 1246, 1319, 1368, 1405, 1442, 1467, 1492, 1505, 1518] 176 665 705 (by decide +kernel) (by omega) (by omega) (by rw [zt]; decide) rfl ?_
                                  refine zAload_n 1 1 706 (by decide +kernel) rfl rfl ?_
                                  refine zCallV 11 zcls11 mX11_day 85 0 0 0 _ _ 709 [] [] okX11_day mlL_85 imX11_day seX11_day (by decide +kernel) rfl rfl (Nat.le_of_ble_eq_true rfl) rfl rfl (X_0 S0_) (zC.mono F ?_)
                                  rintro _ _ ⟨x219, I220, rfl, rfl, F⟩
                                  change zV G (d + 1) mL_law (kc + 4) (ks + 300) 709 [(0, .ref (G.2.2.2.2.2.1 3)), (1, .ref (x)), (2, .ref (m)), (3, .ref (o)), (4, .int (l4))] [.int (x219)] (I220, J, R, K, n) Q
                                  refine zAload_n 2 2 710 (by decide +kernel) rfl rfl ?_
                                  refine zCallV 12 zcls12 mX12_day 88 0 0 0 _ _ 713 [] [.int (x219)] okX12_day mlL_88 imX12_day seX12_day (by decide +kernel) rfl rfl (Nat.le_of_ble_eq_true rfl) rfl rfl (Mod_0 S1_) (zC.mono F ?_)
                                  rintro _ _ ⟨x221, I222, rfl, rfl, F⟩
                                  change zV G (d + 1) mL_law (kc + 4) (ks + 300) 713 [(0, .ref (G.2.2.2.2.2.1 3)), (1, .ref (x)), (2, .ref (m)), (3, .ref (o)), (4, .int (l4))] [.int (x221), .int (x219)] (I222, J, R, K, n) Q
                                  refine zIcmp_eq 870 1583 716 (by decide +kernel) rfl rfl ⟨fun q223 => ?_, fun q223 => ?_⟩
                                  · replace F := F.1 q223
                                    refine zIinc 4 6 4 (l4 + 6) [(4, .int (l4 + 6)), (0, .ref (G.2.2.2.2.2.1 3)), (1, .ref (x)), (2, .ref (m)), (3, .ref (o))] 1586 (by decide +kernel) rfl rfl (by rfl) (by decide) rfl ?_
                                    refine zGoto (-1563) 23 (by decide +kernel) rfl ?_
                                    exact zLoc [1, 2, 3, 4, 0] _ rfl F
                                  · replace F := F.2 q223
                                    refine zIconst 0 0 717 (by decide +kernel) rfl (by decide) ?_
                                    exact zZret .boolean rfl (zNarZ (Or.inl rfl)) (by decide +kernel) F
                                · skip
                                  by_cases q224 : ((G.2.2.2.2.2.2.2 l4.toNatClampNeg) &&& 63) = 15
                                  · replace F := F.2.2.2.2.2.2.2.2.2.2.2.2.2.2.2.1 q224
                                    have zt := zEqT q224 (show (15 : Int32).toInt = 15 by decide)
                                    refine zTableIn 1543 0 39 #[176, 249, 274, 299, 324, 392, 429, 454, 479, 504, 541, 566, 615, 640, 665, 678, 747, 760, 797, 846, 883, 908, 945, 970, 1007, 1032, 1097, 1134, 1159, 1172, 1209, 1246, 1319, 1368, 1405, 1442, 1467, 1492, 1505, 1518] 176 678 718 (by decide +kernel) (by omega) (by omega) (by rw [zt]; decide) rfl ?_
                                    refine zAload_n 1 1 719 (by decide +kernel) rfl rfl ?_
                                    refine zAload_n 0 0 720 (by decide +kernel) rfl rfl ?_
                                    refine zIload 4 4 722 (by decide +kernel) rfl rfl ?_
                                    refine zIconst 1 1 723 (by decide +kernel) rfl (by decide) ?_
                                    refine zIadd 724 (by decide +kernel) rfl ?_
                                    obtain ⟨w225, F⟩ := F
                                    refine zSaload 725 (by decide +kernel) rfl (w225) ?_
                                    refine zAload_n 0 0 726 (by decide +kernel) rfl rfl ?_
                                    refine zIload 4 4 728 (by decide +kernel) rfl rfl ?_
                                    refine zIconst 2 2 729 (by decide +kernel) rfl (by decide) ?_
                                    refine zIadd 730 (by decide +kernel) rfl ?_
                                    obtain ⟨w226, F⟩ := F
                                    refine zSaload 731 (by decide +kernel) rfl (w226) ?_
                                    refine zI2l 732 (by decide +kernel) rfl ?_
                                    refine zBipush 32 32 734 (by decide +kernel) rfl (by decide) ?_
                                    refine zLshl 735 (by decide +kernel) rfl ?_
                                    refine zAload_n 0 0 736 (by decide +kernel) rfl rfl ?_
                                    refine zIload 4 4 738 (by decide +kernel) rfl rfl ?_
                                    refine zIconst 3 3 739 (by decide +kernel) rfl (by decide) ?_
                                    refine zIadd 740 (by decide +kernel) rfl ?_
                                    obtain ⟨w227, F⟩ := F
                                    refine zSaload 741 (by decide +kernel) rfl (w227) ?_
                                    refine zI2l 742 (by decide +kernel) rfl ?_
                                    refine zLdc2 89 4294967295 745 (by decide +kernel) rfl klL_89 ?_
                                    refine zLand 746 (by decide +kernel) rfl ?_
                                    refine zLor 747 (by decide +kernel) rfl ?_
                                    refine zCallV 11 zcls11 mX11_years 91 2 0 0 _ _ 750 [.int (G.2.2.2.2.2.2.2 (l4 + 1 : Int32).toNatClampNeg), .long ((((G.2.2.2.2.2.2.2 (l4 + 2 : Int32).toNatClampNeg : Int32).toInt64 : Int64) <<< ((32 : Int32).toInt64 &&& 63)) ||| (((G.2.2.2.2.2.2.2 (l4 + 3 : Int32).toNatClampNeg : Int32).toInt64) &&& 4294967295))] [] okX11_years mlL_91 imX11_years seX11_years (by decide +kernel) rfl rfl (Nat.le_of_ble_eq_true rfl) rfl rfl (X_0 S0_) (zC.mono F ?_)
                                    rintro _ _ ⟨x228, I229, J230, rfl, rfl, F⟩
                                    change zV G (d + 1) mL_law (kc + 4) (ks + 300) 750 [(0, .ref (G.2.2.2.2.2.1 3)), (1, .ref (x)), (2, .ref (m)), (3, .ref (o)), (4, .int (l4))] [.int (x228)] (I229, J230, R, K, n) Q
                                    refine zAload_n 2 2 751 (by decide +kernel) rfl rfl ?_
                                    refine zAload_n 0 0 752 (by decide +kernel) rfl rfl ?_
                                    refine zIload 4 4 754 (by decide +kernel) rfl rfl ?_
                                    refine zIconst 1 1 755 (by decide +kernel) rfl (by decide) ?_
                                    refine zIadd 756 (by decide +kernel) rfl ?_
                                    obtain ⟨w231, F⟩ := F
                                    refine zSaload 757 (by decide +kernel) rfl (w231) ?_
                                    refine zAload_n 0 0 758 (by decide +kernel) rfl rfl ?_
                                    refine zIload 4 4 760 (by decide +kernel) rfl rfl ?_
                                    refine zIconst 2 2 761 (by decide +kernel) rfl (by decide) ?_
                                    refine zIadd 762 (by decide +kernel) rfl ?_
                                    obtain ⟨w232, F⟩ := F
                                    refine zSaload 763 (by decide +kernel) rfl (w232) ?_
                                    refine zI2l 764 (by decide +kernel) rfl ?_
                                    refine zBipush 32 32 766 (by decide +kernel) rfl (by decide) ?_
                                    refine zLshl 767 (by decide +kernel) rfl ?_
                                    refine zAload_n 0 0 768 (by decide +kernel) rfl rfl ?_
                                    refine zIload 4 4 770 (by decide +kernel) rfl rfl ?_
                                    refine zIconst 3 3 771 (by decide +kernel) rfl (by decide) ?_
                                    refine zIadd 772 (by decide +kernel) rfl ?_
                                    obtain ⟨w233, F⟩ := F
                                    refine zSaload 773 (by decide +kernel) rfl (w233) ?_
                                    refine zI2l 774 (by decide +kernel) rfl ?_
                                    refine zLdc2 89 4294967295 777 (by decide +kernel) rfl klL_89 ?_
                                    refine zLand 778 (by decide +kernel) rfl ?_
                                    refine zLor 779 (by decide +kernel) rfl ?_
                                    refine zCallV 12 zcls12 mX12_years 95 2 0 0 _ _ 782 [.int (G.2.2.2.2.2.2.2 (l4 + 1 : Int32).toNatClampNeg), .long ((((G.2.2.2.2.2.2.2 (l4 + 2 : Int32).toNatClampNeg : Int32).toInt64 : Int64) <<< ((32 : Int32).toInt64 &&& 63)) ||| (((G.2.2.2.2.2.2.2 (l4 + 3 : Int32).toNatClampNeg : Int32).toInt64) &&& 4294967295))] [.int (x228)] okX12_years mlL_95 imX12_years seX12_years (by decide +kernel) rfl rfl (Nat.le_of_ble_eq_true rfl) rfl rfl (Mod_0 S1_) (zC.mono F ?_)
                                    rintro _ _ ⟨x234, I235, J236, R237, rfl, rfl, F⟩
                                    change zV G (d + 1) mL_law (kc + 4) (ks + 300) 782 [(0, .ref (G.2.2.2.2.2.1 3)), (1, .ref (x)), (2, .ref (m)), (3, .ref (o)), (4, .int (l4))] [.int (x234), .int (x228)] (I235, J236, R237, K, n) Q
                                    obtain ⟨u238, u239, u240, S241, F⟩ := F
                                    obtain ⟨u242, u243, S244, F⟩ := F
                                    obtain ⟨S245, F⟩ := F
                                    refine zIcmp_eq 801 1583 785 (by decide +kernel) rfl rfl ⟨fun q246 => ?_, fun q246 => ?_⟩
                                    · replace F := F.1 q246
                                      refine zIinc 4 6 4 (l4 + 6) [(4, .int (l4 + 6)), (0, .ref (G.2.2.2.2.2.1 3)), (1, .ref (x)), (2, .ref (m)), (3, .ref (o))] 1586 (by decide +kernel) rfl rfl (by rfl) (by decide) rfl ?_
                                      refine zGoto (-1563) 23 (by decide +kernel) rfl ?_
                                      exact zLoc [1, 2, 3, 4, 0] _ rfl F
                                    · replace F := F.2 q246
                                      refine zIconst 0 0 786 (by decide +kernel) rfl (by decide) ?_
                                      exact zZret .boolean rfl (zNarZ (Or.inl rfl)) (by decide +kernel) F
                                  · skip
                                    by_cases q247 : ((G.2.2.2.2.2.2.2 l4.toNatClampNeg) &&& 63) = 16
                                    · replace F := F.2.2.2.2.2.2.2.2.2.2.2.2.2.2.2.2.1 q247
                                      have zt := zEqT q247 (show (16 : Int32).toInt = 16 by decide)
                                      refine zTableIn 1543 0 39 #[176, 249, 274, 299, 324, 392, 429, 454, 479, 504, 541, 566, 615, 640, 665, 678, 747, 760, 797, 846, 883, 908, 945, 970, 1007, 1032, 1097, 1134, 1159, 1172, 1209, 1246, 1319, 1368, 1405, 1442, 1467, 1492, 1505, 1518] 176 747 787 (by decide +kernel) (by omega) (by omega) (by rw [zt]; decide) rfl ?_
                                      refine zAload_n 1 1 788 (by decide +kernel) rfl rfl ?_
                                      refine zCallV 11 zcls11 mX11_undo 96 0 0 0 _ _ 791 [] [] okX11_undo mlL_96 imX11_undo seX11_undo (by decide +kernel) rfl rfl (Nat.le_of_ble_eq_true rfl) rfl rfl (X_0 S0_) (zC.mono F ?_)
                                      rintro _ _ ⟨x248, I249, rfl, rfl, F⟩
                                      change zV G (d + 1) mL_law (kc + 4) (ks + 300) 791 [(0, .ref (G.2.2.2.2.2.1 3)), (1, .ref (x)), (2, .ref (m)), (3, .ref (o)), (4, .int (l4))] [.int (x248)] (I249, J, R, K, n) Q
                                      refine zAload_n 2 2 792 (by decide +kernel) rfl rfl ?_
                                      refine zCallV 12 zcls12 mX12_undo 99 0 0 0 _ _ 795 [] [.int (x248)] okX12_undo mlL_99 imX12_undo seX12_undo (by decide +kernel) rfl rfl (Nat.le_of_ble_eq_true rfl) rfl rfl (Mod_0 S1_) (zC.mono F ?_)
                                      rintro _ _ ⟨x250, I251, rfl, rfl, F⟩
                                      change zV G (d + 1) mL_law (kc + 4) (ks + 300) 795 [(0, .ref (G.2.2.2.2.2.1 3)), (1, .ref (x)), (2, .ref (m)), (3, .ref (o)), (4, .int (l4))] [.int (x250), .int (x248)] (I251, J, R, K, n) Q
                                      refine zIcmp_eq 788 1583 798 (by decide +kernel) rfl rfl ⟨fun q252 => ?_, fun q252 => ?_⟩
                                      · replace F := F.1 q252
                                        refine zIinc 4 6 4 (l4 + 6) [(4, .int (l4 + 6)), (0, .ref (G.2.2.2.2.2.1 3)), (1, .ref (x)), (2, .ref (m)), (3, .ref (o))] 1586 (by decide +kernel) rfl rfl (by rfl) (by decide) rfl ?_
                                        refine zGoto (-1563) 23 (by decide +kernel) rfl ?_
                                        exact zLoc [1, 2, 3, 4, 0] _ rfl F
                                      · replace F := F.2 q252
                                        refine zIconst 0 0 799 (by decide +kernel) rfl (by decide) ?_
                                        exact zZret .boolean rfl (zNarZ (Or.inl rfl)) (by decide +kernel) F
                                    · skip
                                      by_cases q253 : ((G.2.2.2.2.2.2.2 l4.toNatClampNeg) &&& 63) = 17
                                      · replace F := F.2.2.2.2.2.2.2.2.2.2.2.2.2.2.2.2.2.1 q253
                                        have zt := zEqT q253 (show (17 : Int32).toInt = 17 by decide)
                                        refine zTableIn 1543 0 39 #[176, 249, 274, 299, 324, 392, 429, 454, 479, 504, 541, 566, 615, 640, 665, 678, 747, 760, 797, 846, 883, 908, 945, 970, 1007, 1032, 1097, 1134, 1159, 1172, 1209, 1246, 1319, 1368, 1405, 1442, 1467, 1492, 1505, 1518] 176 760 800 (by decide +kernel) (by omega) (by omega) (by rw [zt]; decide) rfl ?_
                                        refine zAload_n 1 1 801 (by decide +kernel) rfl rfl ?_
                                        refine zAload_n 0 0 802 (by decide +kernel) rfl rfl ?_
                                        refine zIload 4 4 804 (by decide +kernel) rfl rfl ?_
                                        refine zIconst 1 1 805 (by decide +kernel) rfl (by decide) ?_
                                        refine zIadd 806 (by decide +kernel) rfl ?_
                                        obtain ⟨w254, F⟩ := F
                                        refine zSaload 807 (by decide +kernel) rfl (w254) ?_
                                        refine zAload_n 0 0 808 (by decide +kernel) rfl rfl ?_
                                        refine zIload 4 4 810 (by decide +kernel) rfl rfl ?_
                                        refine zIconst 2 2 811 (by decide +kernel) rfl (by decide) ?_
                                        refine zIadd 812 (by decide +kernel) rfl ?_
                                        obtain ⟨w255, F⟩ := F
                                        refine zSaload 813 (by decide +kernel) rfl (w255) ?_
                                        refine zCallV 11 zcls11 mX11_log 100 2 0 0 _ _ 816 [.int (G.2.2.2.2.2.2.2 (l4 + 1 : Int32).toNatClampNeg), .int (G.2.2.2.2.2.2.2 (l4 + 2 : Int32).toNatClampNeg)] [] okX11_log mlL_100 imX11_log seX11_log (by decide +kernel) rfl rfl (Nat.le_of_ble_eq_true rfl) rfl rfl (X_0 S0_) (zC.mono F ?_)
                                        rintro _ _ ⟨x256, I257, rfl, rfl, F⟩
                                        change zV G (d + 1) mL_law (kc + 4) (ks + 300) 816 [(0, .ref (G.2.2.2.2.2.1 3)), (1, .ref (x)), (2, .ref (m)), (3, .ref (o)), (4, .int (l4))] [.int (x256)] (I257, J, R, K, n) Q
                                        refine zAload_n 2 2 817 (by decide +kernel) rfl rfl ?_
                                        refine zAload_n 0 0 818 (by decide +kernel) rfl rfl ?_
                                        refine zIload 4 4 820 (by decide +kernel) rfl rfl ?_
                                        refine zIconst 1 1 821 (by decide +kernel) rfl (by decide) ?_
                                        refine zIadd 822 (by decide +kernel) rfl ?_
                                        obtain ⟨w258, F⟩ := F
                                        refine zSaload 823 (by decide +kernel) rfl (w258) ?_
                                        refine zAload_n 0 0 824 (by decide +kernel) rfl rfl ?_
                                        refine zIload 4 4 826 (by decide +kernel) rfl rfl ?_
                                        refine zIconst 2 2 827 (by decide +kernel) rfl (by decide) ?_
                                        refine zIadd 828 (by decide +kernel) rfl ?_
                                        obtain ⟨w259, F⟩ := F
                                        refine zSaload 829 (by decide +kernel) rfl (w259) ?_
                                        refine zCallV 12 zcls12 mX12_log 103 2 0 0 _ _ 832 [.int (G.2.2.2.2.2.2.2 (l4 + 1 : Int32).toNatClampNeg), .int (G.2.2.2.2.2.2.2 (l4 + 2 : Int32).toNatClampNeg)] [.int (x256)] okX12_log mlL_103 imX12_log seX12_log (by decide +kernel) rfl rfl (Nat.le_of_ble_eq_true rfl) rfl rfl (Mod_0 S1_) (zC.mono F ?_)
                                        rintro _ _ ⟨x260, I261, rfl, rfl, F⟩
                                        change zV G (d + 1) mL_law (kc + 4) (ks + 300) 832 [(0, .ref (G.2.2.2.2.2.1 3)), (1, .ref (x)), (2, .ref (m)), (3, .ref (o)), (4, .int (l4))] [.int (x260), .int (x256)] (I261, J, R, K, n) Q
                                        refine zIcmp_eq 751 1583 835 (by decide +kernel) rfl rfl ⟨fun q262 => ?_, fun q262 => ?_⟩
                                        · replace F := F.1 q262
                                          refine zIinc 4 6 4 (l4 + 6) [(4, .int (l4 + 6)), (0, .ref (G.2.2.2.2.2.1 3)), (1, .ref (x)), (2, .ref (m)), (3, .ref (o))] 1586 (by decide +kernel) rfl rfl (by rfl) (by decide) rfl ?_
                                          refine zGoto (-1563) 23 (by decide +kernel) rfl ?_
                                          exact zLoc [1, 2, 3, 4, 0] _ rfl F
                                        · replace F := F.2 q262
                                          refine zIconst 0 0 836 (by decide +kernel) rfl (by decide) ?_
                                          exact zZret .boolean rfl (zNarZ (Or.inl rfl)) (by decide +kernel) F
                                      · skip
                                        by_cases q263 : ((G.2.2.2.2.2.2.2 l4.toNatClampNeg) &&& 63) = 18
                                        · replace F := F.2.2.2.2.2.2.2.2.2.2.2.2.2.2.2.2.2.2.1 q263
                                          have zt := zEqT q263 (show (18 : Int32).toInt = 18 by decide)
                                          refine zTableIn 1543 0 39 #[176, 249, 274, 299, 324, 392, 429, 454, 479, 504, 541, 566, 615, 640, 665, 678, 747, 760, 797, 846, 883, 908, 945, 970, 1007, 1032, 1097, 1134, 1159, 1172, 1209, 1246, 1319, 1368, 1405, 1442, 1467, 1492, 1505, 1518] 176 797 837 (by decide +kernel) (by omega) (by omega) (by rw [zt]; decide) rfl ?_
                                          refine zAload_n 1 1 838 (by decide +kernel) rfl rfl ?_
                                          refine zAload_n 0 0 839 (by decide +kernel) rfl rfl ?_
                                          refine zIload 4 4 841 (by decide +kernel) rfl rfl ?_
                                          refine zIconst 1 1 842 (by decide +kernel) rfl (by decide) ?_
                                          refine zIadd 843 (by decide +kernel) rfl ?_
                                          obtain ⟨w264, F⟩ := F
                                          refine zSaload 844 (by decide +kernel) rfl (w264) ?_
                                          refine zAload_n 0 0 845 (by decide +kernel) rfl rfl ?_
                                          refine zIload 4 4 847 (by decide +kernel) rfl rfl ?_
                                          refine zIconst 2 2 848 (by decide +kernel) rfl (by decide) ?_
                                          refine zIadd 849 (by decide +kernel) rfl ?_
                                          obtain ⟨w265, F⟩ := F
                                          refine zSaload 850 (by decide +kernel) rfl (w265) ?_
                                          refine zAload_n 0 0 851 (by decide +kernel) rfl rfl ?_
                                          refine zIload 4 4 853 (by decide +kernel) rfl rfl ?_
                                          refine zIconst 3 3 854 (by decide +kernel) rfl (by decide) ?_
                                          refine zIadd 855 (by decide +kernel) rfl ?_
                                          obtain ⟨w266, F⟩ := F
                                          refine zSaload 856 (by decide +kernel) rfl (w266) ?_
                                          refine zCallV 11 zcls11 mX11_step 104 3 0 0 _ _ 859 [.int (G.2.2.2.2.2.2.2 (l4 + 1 : Int32).toNatClampNeg), .int (G.2.2.2.2.2.2.2 (l4 + 2 : Int32).toNatClampNeg), .int (G.2.2.2.2.2.2.2 (l4 + 3 : Int32).toNatClampNeg)] [] okX11_step mlL_104 imX11_step seX11_step (by decide +kernel) rfl rfl (Nat.le_of_ble_eq_true rfl) rfl rfl (X_0 S0_) (zC.mono F ?_)
                                          rintro _ _ ⟨x267, I268, rfl, rfl, F⟩
                                          change zV G (d + 1) mL_law (kc + 4) (ks + 300) 859 [(0, .ref (G.2.2.2.2.2.1 3)), (1, .ref (x)), (2, .ref (m)), (3, .ref (o)), (4, .int (l4))] [.int (x267)] (I268, J, R, K, n) Q
                                          refine zAload_n 2 2 860 (by decide +kernel) rfl rfl ?_
                                          refine zAload_n 0 0 861 (by decide +kernel) rfl rfl ?_
                                          refine zIload 4 4 863 (by decide +kernel) rfl rfl ?_
                                          refine zIconst 1 1 864 (by decide +kernel) rfl (by decide) ?_
                                          refine zIadd 865 (by decide +kernel) rfl ?_
                                          obtain ⟨w269, F⟩ := F
                                          refine zSaload 866 (by decide +kernel) rfl (w269) ?_
                                          refine zAload_n 0 0 867 (by decide +kernel) rfl rfl ?_
                                          refine zIload 4 4 869 (by decide +kernel) rfl rfl ?_
                                          refine zIconst 2 2 870 (by decide +kernel) rfl (by decide) ?_
                                          refine zIadd 871 (by decide +kernel) rfl ?_
                                          obtain ⟨w270, F⟩ := F
                                          refine zSaload 872 (by decide +kernel) rfl (w270) ?_
                                          refine zAload_n 0 0 873 (by decide +kernel) rfl rfl ?_
                                          refine zIload 4 4 875 (by decide +kernel) rfl rfl ?_
                                          refine zIconst 3 3 876 (by decide +kernel) rfl (by decide) ?_
                                          refine zIadd 877 (by decide +kernel) rfl ?_
                                          obtain ⟨w271, F⟩ := F
                                          refine zSaload 878 (by decide +kernel) rfl (w271) ?_
                                          refine zCallV 12 zcls12 mX12_step 107 3 0 0 _ _ 881 [.int (G.2.2.2.2.2.2.2 (l4 + 1 : Int32).toNatClampNeg), .int (G.2.2.2.2.2.2.2 (l4 + 2 : Int32).toNatClampNeg), .int (G.2.2.2.2.2.2.2 (l4 + 3 : Int32).toNatClampNeg)] [.int (x267)] okX12_step mlL_107 imX12_step seX12_step (by decide +kernel) rfl rfl (Nat.le_of_ble_eq_true rfl) rfl rfl (Mod_0 S1_) (zC.mono F ?_)
                                          rintro _ _ ⟨x272, I273, rfl, rfl, F⟩
                                          change zV G (d + 1) mL_law (kc + 4) (ks + 300) 881 [(0, .ref (G.2.2.2.2.2.1 3)), (1, .ref (x)), (2, .ref (m)), (3, .ref (o)), (4, .int (l4))] [.int (x272), .int (x267)] (I273, J, R, K, n) Q
                                          refine zIcmp_eq 702 1583 884 (by decide +kernel) rfl rfl ⟨fun q274 => ?_, fun q274 => ?_⟩
                                          · replace F := F.1 q274
                                            refine zIinc 4 6 4 (l4 + 6) [(4, .int (l4 + 6)), (0, .ref (G.2.2.2.2.2.1 3)), (1, .ref (x)), (2, .ref (m)), (3, .ref (o))] 1586 (by decide +kernel) rfl rfl (by rfl) (by decide) rfl ?_
                                            refine zGoto (-1563) 23 (by decide +kernel) rfl ?_
                                            exact zLoc [1, 2, 3, 4, 0] _ rfl F
                                          · replace F := F.2 q274
                                            refine zIconst 0 0 885 (by decide +kernel) rfl (by decide) ?_
                                            exact zZret .boolean rfl (zNarZ (Or.inl rfl)) (by decide +kernel) F
                                        · skip
                                          by_cases q275 : ((G.2.2.2.2.2.2.2 l4.toNatClampNeg) &&& 63) = 19
                                          · replace F := F.2.2.2.2.2.2.2.2.2.2.2.2.2.2.2.2.2.2.2.1 q275
                                            have zt := zEqT q275 (show (19 : Int32).toInt = 19 by decide)
                                            refine zTableIn 1543 0 39 #[176, 249, 274, 299, 324, 392, 429, 454, 479, 504, 541, 566, 615, 640, 665, 678, 747, 760, 797, 846, 883, 908, 945, 970, 1007, 1032, 1097, 1134, 1159, 1172, 1209, 1246, 1319, 1368, 1405, 1442, 1467, 1492, 1505, 1518] 176 846 886 (by decide +kernel) (by omega) (by omega) (by rw [zt]; decide) rfl ?_
                                            refine zAload_n 1 1 887 (by decide +kernel) rfl rfl ?_
                                            refine zAload_n 0 0 888 (by decide +kernel) rfl rfl ?_
                                            refine zIload 4 4 890 (by decide +kernel) rfl rfl ?_
                                            refine zIconst 1 1 891 (by decide +kernel) rfl (by decide) ?_
                                            refine zIadd 892 (by decide +kernel) rfl ?_
                                            obtain ⟨w276, F⟩ := F
                                            refine zSaload 893 (by decide +kernel) rfl (w276) ?_
                                            refine zAload_n 0 0 894 (by decide +kernel) rfl rfl ?_
                                            refine zIload 4 4 896 (by decide +kernel) rfl rfl ?_
                                            refine zIconst 2 2 897 (by decide +kernel) rfl (by decide) ?_
                                            refine zIadd 898 (by decide +kernel) rfl ?_
                                            obtain ⟨w277, F⟩ := F
                                            refine zSaload 899 (by decide +kernel) rfl (w277) ?_
                                            refine zCallV 11 zcls11 mX11_run 108 2 0 0 _ _ 902 [.int (G.2.2.2.2.2.2.2 (l4 + 1 : Int32).toNatClampNeg), .int (G.2.2.2.2.2.2.2 (l4 + 2 : Int32).toNatClampNeg)] [] okX11_run mlL_108 imX11_run seX11_run (by decide +kernel) rfl rfl (Nat.le_of_ble_eq_true rfl) rfl rfl (X_0 S0_) (zC.mono F ?_)
                                            rintro _ _ ⟨x278, I279, rfl, rfl, F⟩
                                            change zV G (d + 1) mL_law (kc + 4) (ks + 300) 902 [(0, .ref (G.2.2.2.2.2.1 3)), (1, .ref (x)), (2, .ref (m)), (3, .ref (o)), (4, .int (l4))] [.int (x278)] (I279, J, R, K, n) Q
                                            refine zAload_n 2 2 903 (by decide +kernel) rfl rfl ?_
                                            refine zAload_n 0 0 904 (by decide +kernel) rfl rfl ?_
                                            refine zIload 4 4 906 (by decide +kernel) rfl rfl ?_
                                            refine zIconst 1 1 907 (by decide +kernel) rfl (by decide) ?_
                                            refine zIadd 908 (by decide +kernel) rfl ?_
                                            obtain ⟨w280, F⟩ := F
                                            refine zSaload 909 (by decide +kernel) rfl (w280) ?_
                                            refine zAload_n 0 0 910 (by decide +kernel) rfl rfl ?_
                                            refine zIload 4 4 912 (by decide +kernel) rfl rfl ?_
                                            refine zIconst 2 2 913 (by decide +kernel) rfl (by decide) ?_
                                            refine zIadd 914 (by decide +kernel) rfl ?_
                                            obtain ⟨w281, F⟩ := F
                                            refine zSaload 915 (by decide +kernel) rfl (w281) ?_
                                            refine zCallV 12 zcls12 mX12_run 111 2 0 0 _ _ 918 [.int (G.2.2.2.2.2.2.2 (l4 + 1 : Int32).toNatClampNeg), .int (G.2.2.2.2.2.2.2 (l4 + 2 : Int32).toNatClampNeg)] [.int (x278)] okX12_run mlL_111 imX12_run seX12_run (by decide +kernel) rfl rfl (Nat.le_of_ble_eq_true rfl) rfl rfl (Mod_0 S1_) (zC.mono F ?_)
                                            rintro _ _ ⟨x282, I283, J284, R285, rfl, rfl, F⟩
                                            change zV G (d + 1) mL_law (kc + 4) (ks + 300) 918 [(0, .ref (G.2.2.2.2.2.1 3)), (1, .ref (x)), (2, .ref (m)), (3, .ref (o)), (4, .int (l4))] [.int (x282), .int (x278)] (I283, J284, R285, K, n) Q
                                            obtain ⟨u286, u287, u288, S289, F⟩ := F
                                            obtain ⟨u290, u291, S292, F⟩ := F
                                            obtain ⟨S293, F⟩ := F
                                            refine zIcmp_eq 665 1583 921 (by decide +kernel) rfl rfl ⟨fun q294 => ?_, fun q294 => ?_⟩
                                            · replace F := F.1 q294
                                              refine zIinc 4 6 4 (l4 + 6) [(4, .int (l4 + 6)), (0, .ref (G.2.2.2.2.2.1 3)), (1, .ref (x)), (2, .ref (m)), (3, .ref (o))] 1586 (by decide +kernel) rfl rfl (by rfl) (by decide) rfl ?_
                                              refine zGoto (-1563) 23 (by decide +kernel) rfl ?_
                                              exact zLoc [1, 2, 3, 4, 0] _ rfl F
                                            · replace F := F.2 q294
                                              refine zIconst 0 0 922 (by decide +kernel) rfl (by decide) ?_
                                              exact zZret .boolean rfl (zNarZ (Or.inl rfl)) (by decide +kernel) F
                                          · skip
                                            by_cases q295 : ((G.2.2.2.2.2.2.2 l4.toNatClampNeg) &&& 63) = 20
                                            · replace F := F.2.2.2.2.2.2.2.2.2.2.2.2.2.2.2.2.2.2.2.2.1 q295
                                              have zt := zEqT q295 (show (20 : Int32).toInt = 20 by decide)
                                              refine zTableIn 1543 0 39 #[176, 249, 274, 299, 324, 392, 429, 454, 479, 504, 541, 566, 615, 640, 665, 678, 747, 760, 797, 846, 883, 908, 945, 970, 1007, 1032, 1097, 1134, 1159, 1172, 1209, 1246, 1319, 1368, 1405, 1442, 1467, 1492, 1505, 1518] 176 883 923 (by decide +kernel) (by omega) (by omega) (by rw [zt]; decide) rfl ?_
                                              refine zAload_n 1 1 924 (by decide +kernel) rfl rfl ?_
                                              refine zAload_n 0 0 925 (by decide +kernel) rfl rfl ?_
                                              refine zIload 4 4 927 (by decide +kernel) rfl rfl ?_
                                              refine zIconst 1 1 928 (by decide +kernel) rfl (by decide) ?_
                                              refine zIadd 929 (by decide +kernel) rfl ?_
                                              obtain ⟨w296, F⟩ := F
                                              refine zSaload 930 (by decide +kernel) rfl (w296) ?_
                                              refine zCallV 11 zcls11 mX11_perform 112 1 0 0 _ _ 933 [.int (G.2.2.2.2.2.2.2 (l4 + 1 : Int32).toNatClampNeg)] [] okX11_perform mlL_112 imX11_perform seX11_perform (by decide +kernel) rfl rfl (Nat.le_of_ble_eq_true rfl) rfl rfl (X_0 S0_) (zC.mono F ?_)
                                              rintro _ _ ⟨x297, I298, rfl, rfl, F⟩
                                              change zV G (d + 1) mL_law (kc + 4) (ks + 300) 933 [(0, .ref (G.2.2.2.2.2.1 3)), (1, .ref (x)), (2, .ref (m)), (3, .ref (o)), (4, .int (l4))] [.int (x297)] (I298, J, R, K, n) Q
                                              refine zAload_n 2 2 934 (by decide +kernel) rfl rfl ?_
                                              refine zAload_n 0 0 935 (by decide +kernel) rfl rfl ?_
                                              refine zIload 4 4 937 (by decide +kernel) rfl rfl ?_
                                              refine zIconst 1 1 938 (by decide +kernel) rfl (by decide) ?_
                                              refine zIadd 939 (by decide +kernel) rfl ?_
                                              obtain ⟨w299, F⟩ := F
                                              refine zSaload 940 (by decide +kernel) rfl (w299) ?_
                                              refine zCallV 12 zcls12 mX12_perform 115 1 0 0 _ _ 943 [.int (G.2.2.2.2.2.2.2 (l4 + 1 : Int32).toNatClampNeg)] [.int (x297)] okX12_perform mlL_115 imX12_perform seX12_perform (by decide +kernel) rfl rfl (Nat.le_of_ble_eq_true rfl) rfl rfl (Mod_0 S1_) (zC.mono F ?_)
                                              rintro _ _ ⟨x300, I301, J302, R303, rfl, rfl, F⟩
                                              change zV G (d + 1) mL_law (kc + 4) (ks + 300) 943 [(0, .ref (G.2.2.2.2.2.1 3)), (1, .ref (x)), (2, .ref (m)), (3, .ref (o)), (4, .int (l4))] [.int (x300), .int (x297)] (I301, J302, R303, K, n) Q
                                              obtain ⟨u304, u305, u306, S307, F⟩ := F
                                              obtain ⟨u308, u309, S310, F⟩ := F
                                              obtain ⟨S311, F⟩ := F
                                              refine zIcmp_eq 640 1583 946 (by decide +kernel) rfl rfl ⟨fun q312 => ?_, fun q312 => ?_⟩
                                              · replace F := F.1 q312
                                                refine zIinc 4 6 4 (l4 + 6) [(4, .int (l4 + 6)), (0, .ref (G.2.2.2.2.2.1 3)), (1, .ref (x)), (2, .ref (m)), (3, .ref (o))] 1586 (by decide +kernel) rfl rfl (by rfl) (by decide) rfl ?_
                                                refine zGoto (-1563) 23 (by decide +kernel) rfl ?_
                                                exact zLoc [1, 2, 3, 4, 0] _ rfl F
                                              · replace F := F.2 q312
                                                refine zIconst 0 0 947 (by decide +kernel) rfl (by decide) ?_
                                                exact zZret .boolean rfl (zNarZ (Or.inl rfl)) (by decide +kernel) F
                                            · skip
                                              by_cases q313 : ((G.2.2.2.2.2.2.2 l4.toNatClampNeg) &&& 63) = 21
                                              · replace F := F.2.2.2.2.2.2.2.2.2.2.2.2.2.2.2.2.2.2.2.2.2.1 q313
                                                have zt := zEqT q313 (show (21 : Int32).toInt = 21 by decide)
                                                refine zTableIn 1543 0 39 #[176, 249, 274, 299, 324, 392, 429, 454, 479, 504, 541, 566, 615, 640, 665, 678, 747, 760, 797, 846, 883, 908, 945, 970, 1007, 1032, 1097, 1134, 1159, 1172, 1209, 1246, 1319, 1368, 1405, 1442, 1467, 1492, 1505, 1518] 176 908 948 (by decide +kernel) (by omega) (by omega) (by rw [zt]; decide) rfl ?_
                                                refine zAload_n 1 1 949 (by decide +kernel) rfl rfl ?_
                                                refine zAload_n 0 0 950 (by decide +kernel) rfl rfl ?_
                                                refine zIload 4 4 952 (by decide +kernel) rfl rfl ?_
                                                refine zIconst 1 1 953 (by decide +kernel) rfl (by decide) ?_
                                                refine zIadd 954 (by decide +kernel) rfl ?_
                                                obtain ⟨w314, F⟩ := F
                                                refine zSaload 955 (by decide +kernel) rfl (w314) ?_
                                                refine zAload_n 0 0 956 (by decide +kernel) rfl rfl ?_
                                                refine zIload 4 4 958 (by decide +kernel) rfl rfl ?_
                                                refine zIconst 2 2 959 (by decide +kernel) rfl (by decide) ?_
                                                refine zIadd 960 (by decide +kernel) rfl ?_
                                                obtain ⟨w315, F⟩ := F
                                                refine zSaload 961 (by decide +kernel) rfl (w315) ?_
                                                refine zCallV 11 zcls11 mX11_least 116 2 0 0 _ _ 964 [.int (G.2.2.2.2.2.2.2 (l4 + 1 : Int32).toNatClampNeg), .int (G.2.2.2.2.2.2.2 (l4 + 2 : Int32).toNatClampNeg)] [] okX11_least mlL_116 imX11_least seX11_least (by decide +kernel) rfl rfl (Nat.le_of_ble_eq_true rfl) rfl rfl (X_0 S0_) (zC.mono F ?_)
                                                rintro _ _ ⟨x316, I317, rfl, rfl, F⟩
                                                change zV G (d + 1) mL_law (kc + 4) (ks + 300) 964 [(0, .ref (G.2.2.2.2.2.1 3)), (1, .ref (x)), (2, .ref (m)), (3, .ref (o)), (4, .int (l4))] [.int (x316)] (I317, J, R, K, n) Q
                                                refine zAload_n 2 2 965 (by decide +kernel) rfl rfl ?_
                                                refine zAload_n 0 0 966 (by decide +kernel) rfl rfl ?_
                                                refine zIload 4 4 968 (by decide +kernel) rfl rfl ?_
                                                refine zIconst 1 1 969 (by decide +kernel) rfl (by decide) ?_
                                                refine zIadd 970 (by decide +kernel) rfl ?_
                                                obtain ⟨w318, F⟩ := F
                                                refine zSaload 971 (by decide +kernel) rfl (w318) ?_
                                                refine zAload_n 0 0 972 (by decide +kernel) rfl rfl ?_
                                                refine zIload 4 4 974 (by decide +kernel) rfl rfl ?_
                                                refine zIconst 2 2 975 (by decide +kernel) rfl (by decide) ?_
                                                refine zIadd 976 (by decide +kernel) rfl ?_
                                                obtain ⟨w319, F⟩ := F
                                                refine zSaload 977 (by decide +kernel) rfl (w319) ?_
                                                refine zCallV 12 zcls12 mX12_least 119 2 0 0 _ _ 980 [.int (G.2.2.2.2.2.2.2 (l4 + 1 : Int32).toNatClampNeg), .int (G.2.2.2.2.2.2.2 (l4 + 2 : Int32).toNatClampNeg)] [.int (x316)] okX12_least mlL_119 imX12_least seX12_least (by decide +kernel) rfl rfl (Nat.le_of_ble_eq_true rfl) rfl rfl (Mod_0 S1_) (zC.mono F ?_)
                                                rintro _ _ ⟨x320, I321, J322, R323, rfl, rfl, F⟩
                                                change zV G (d + 1) mL_law (kc + 4) (ks + 300) 980 [(0, .ref (G.2.2.2.2.2.1 3)), (1, .ref (x)), (2, .ref (m)), (3, .ref (o)), (4, .int (l4))] [.int (x320), .int (x316)] (I321, J322, R323, K, n) Q
                                                obtain ⟨u324, u325, u326, S327, F⟩ := F
                                                obtain ⟨u328, u329, S330, F⟩ := F
                                                obtain ⟨S331, F⟩ := F
                                                refine zIcmp_eq 603 1583 983 (by decide +kernel) rfl rfl ⟨fun q332 => ?_, fun q332 => ?_⟩
                                                · replace F := F.1 q332
                                                  refine zIinc 4 6 4 (l4 + 6) [(4, .int (l4 + 6)), (0, .ref (G.2.2.2.2.2.1 3)), (1, .ref (x)), (2, .ref (m)), (3, .ref (o))] 1586 (by decide +kernel) rfl rfl (by rfl) (by decide) rfl ?_
                                                  refine zGoto (-1563) 23 (by decide +kernel) rfl ?_
                                                  exact zLoc [1, 2, 3, 4, 0] _ rfl F
                                                · replace F := F.2 q332
                                                  refine zIconst 0 0 984 (by decide +kernel) rfl (by decide) ?_
                                                  exact zZret .boolean rfl (zNarZ (Or.inl rfl)) (by decide +kernel) F
                                              · skip
                                                by_cases q333 : ((G.2.2.2.2.2.2.2 l4.toNatClampNeg) &&& 63) = 22
                                                · replace F := F.2.2.2.2.2.2.2.2.2.2.2.2.2.2.2.2.2.2.2.2.2.2.1 q333
                                                  have zt := zEqT q333 (show (22 : Int32).toInt = 22 by decide)
                                                  refine zTableIn 1543 0 39 #[176, 249, 274, 299, 324, 392, 429, 454, 479, 504, 541, 566, 615, 640, 665, 678, 747, 760, 797, 846, 883, 908, 945, 970, 1007, 1032, 1097, 1134, 1159, 1172, 1209, 1246, 1319, 1368, 1405, 1442, 1467, 1492, 1505, 1518] 176 945 985 (by decide +kernel) (by omega) (by omega) (by rw [zt]; decide) rfl ?_
                                                  refine zAload_n 1 1 986 (by decide +kernel) rfl rfl ?_
                                                  refine zAload_n 0 0 987 (by decide +kernel) rfl rfl ?_
                                                  refine zIload 4 4 989 (by decide +kernel) rfl rfl ?_
                                                  refine zIconst 1 1 990 (by decide +kernel) rfl (by decide) ?_
                                                  refine zIadd 991 (by decide +kernel) rfl ?_
                                                  obtain ⟨w334, F⟩ := F
                                                  refine zSaload 992 (by decide +kernel) rfl (w334) ?_
                                                  refine zCallV 11 zcls11 mX11_every 120 1 0 0 _ _ 995 [.int (G.2.2.2.2.2.2.2 (l4 + 1 : Int32).toNatClampNeg)] [] okX11_every mlL_120 imX11_every seX11_every (by decide +kernel) rfl rfl (Nat.le_of_ble_eq_true rfl) rfl rfl (X_0 S0_) (zC.mono F ?_)
                                                  rintro _ _ ⟨x335, I336, rfl, rfl, F⟩
                                                  change zV G (d + 1) mL_law (kc + 4) (ks + 300) 995 [(0, .ref (G.2.2.2.2.2.1 3)), (1, .ref (x)), (2, .ref (m)), (3, .ref (o)), (4, .int (l4))] [.int (x335)] (I336, J, R, K, n) Q
                                                  refine zAload_n 2 2 996 (by decide +kernel) rfl rfl ?_
                                                  refine zAload_n 0 0 997 (by decide +kernel) rfl rfl ?_
                                                  refine zIload 4 4 999 (by decide +kernel) rfl rfl ?_
                                                  refine zIconst 1 1 1000 (by decide +kernel) rfl (by decide) ?_
                                                  refine zIadd 1001 (by decide +kernel) rfl ?_
                                                  obtain ⟨w337, F⟩ := F
                                                  refine zSaload 1002 (by decide +kernel) rfl (w337) ?_
                                                  refine zCallV 12 zcls12 mX12_every 123 1 0 0 _ _ 1005 [.int (G.2.2.2.2.2.2.2 (l4 + 1 : Int32).toNatClampNeg)] [.int (x335)] okX12_every mlL_123 imX12_every seX12_every (by decide +kernel) rfl rfl (Nat.le_of_ble_eq_true rfl) rfl rfl (Mod_0 S1_) (zC.mono F ?_)
                                                  rintro _ _ ⟨x338, I339, J340, R341, rfl, rfl, F⟩
                                                  change zV G (d + 1) mL_law (kc + 4) (ks + 300) 1005 [(0, .ref (G.2.2.2.2.2.1 3)), (1, .ref (x)), (2, .ref (m)), (3, .ref (o)), (4, .int (l4))] [.int (x338), .int (x335)] (I339, J340, R341, K, n) Q
                                                  obtain ⟨u342, u343, u344, S345, F⟩ := F
                                                  obtain ⟨u346, u347, S348, F⟩ := F
                                                  obtain ⟨S349, F⟩ := F
                                                  refine zIcmp_eq 578 1583 1008 (by decide +kernel) rfl rfl ⟨fun q350 => ?_, fun q350 => ?_⟩
                                                  · replace F := F.1 q350
                                                    refine zIinc 4 6 4 (l4 + 6) [(4, .int (l4 + 6)), (0, .ref (G.2.2.2.2.2.1 3)), (1, .ref (x)), (2, .ref (m)), (3, .ref (o))] 1586 (by decide +kernel) rfl rfl (by rfl) (by decide) rfl ?_
                                                    refine zGoto (-1563) 23 (by decide +kernel) rfl ?_
                                                    exact zLoc [1, 2, 3, 4, 0] _ rfl F
                                                  · replace F := F.2 q350
                                                    refine zIconst 0 0 1009 (by decide +kernel) rfl (by decide) ?_
                                                    exact zZret .boolean rfl (zNarZ (Or.inl rfl)) (by decide +kernel) F
                                                · skip
                                                  by_cases q351 : ((G.2.2.2.2.2.2.2 l4.toNatClampNeg) &&& 63) = 23
                                                  · replace F := F.2.2.2.2.2.2.2.2.2.2.2.2.2.2.2.2.2.2.2.2.2.2.2.1 q351
                                                    have zt := zEqT q351 (show (23 : Int32).toInt = 23 by decide)
                                                    refine zTableIn 1543 0 39 #[176, 249, 274, 299, 324, 392, 429, 454, 479, 504, 541, 566, 615, 640, 665, 678, 747, 760, 797, 846, 883, 908, 945, 970, 1007, 1032, 1097, 1134, 1159, 1172, 1209, 1246, 1319, 1368, 1405, 1442, 1467, 1492, 1505, 1518] 176 970 1010 (by decide +kernel) (by omega) (by omega) (by rw [zt]; decide) rfl ?_
                                                    refine zAload_n 1 1 1011 (by decide +kernel) rfl rfl ?_
                                                    refine zAload_n 0 0 1012 (by decide +kernel) rfl rfl ?_
                                                    refine zIload 4 4 1014 (by decide +kernel) rfl rfl ?_
                                                    refine zIconst 1 1 1015 (by decide +kernel) rfl (by decide) ?_
                                                    refine zIadd 1016 (by decide +kernel) rfl ?_
                                                    obtain ⟨w352, F⟩ := F
                                                    refine zSaload 1017 (by decide +kernel) rfl (w352) ?_
                                                    refine zAload_n 0 0 1018 (by decide +kernel) rfl rfl ?_
                                                    refine zIload 4 4 1020 (by decide +kernel) rfl rfl ?_
                                                    refine zIconst 2 2 1021 (by decide +kernel) rfl (by decide) ?_
                                                    refine zIadd 1022 (by decide +kernel) rfl ?_
                                                    obtain ⟨w353, F⟩ := F
                                                    refine zSaload 1023 (by decide +kernel) rfl (w353) ?_
                                                    refine zCallV 11 zcls11 mX11_richest 124 2 0 0 _ _ 1026 [.int (G.2.2.2.2.2.2.2 (l4 + 1 : Int32).toNatClampNeg), .int (G.2.2.2.2.2.2.2 (l4 + 2 : Int32).toNatClampNeg)] [] okX11_richest mlL_124 imX11_richest seX11_richest (by decide +kernel) rfl rfl (Nat.le_of_ble_eq_true rfl) rfl rfl (X_0 S0_) (zC.mono F ?_)
                                                    rintro _ _ ⟨x354, I355, rfl, rfl, F⟩
                                                    change zV G (d + 1) mL_law (kc + 4) (ks + 300) 1026 [(0, .ref (G.2.2.2.2.2.1 3)), (1, .ref (x)), (2, .ref (m)), (3, .ref (o)), (4, .int (l4))] [.int (x354)] (I355, J, R, K, n) Q
                                                    refine zAload_n 2 2 1027 (by decide +kernel) rfl rfl ?_
                                                    refine zAload_n 0 0 1028 (by decide +kernel) rfl rfl ?_
                                                    refine zIload 4 4 1030 (by decide +kernel) rfl rfl ?_
                                                    refine zIconst 1 1 1031 (by decide +kernel) rfl (by decide) ?_
                                                    refine zIadd 1032 (by decide +kernel) rfl ?_
                                                    obtain ⟨w356, F⟩ := F
                                                    refine zSaload 1033 (by decide +kernel) rfl (w356) ?_
                                                    refine zAload_n 0 0 1034 (by decide +kernel) rfl rfl ?_
                                                    refine zIload 4 4 1036 (by decide +kernel) rfl rfl ?_
                                                    refine zIconst 2 2 1037 (by decide +kernel) rfl (by decide) ?_
                                                    refine zIadd 1038 (by decide +kernel) rfl ?_
                                                    obtain ⟨w357, F⟩ := F
                                                    refine zSaload 1039 (by decide +kernel) rfl (w357) ?_
                                                    refine zCallV 12 zcls12 mX12_richest 127 2 0 0 _ _ 1042 [.int (G.2.2.2.2.2.2.2 (l4 + 1 : Int32).toNatClampNeg), .int (G.2.2.2.2.2.2.2 (l4 + 2 : Int32).toNatClampNeg)] [.int (x354)] okX12_richest mlL_127 imX12_richest seX12_richest (by decide +kernel) rfl rfl (Nat.le_of_ble_eq_true rfl) rfl rfl (Mod_0 S1_) (zC.mono F ?_)
                                                    rintro _ _ ⟨x358, I359, J360, R361, rfl, rfl, F⟩
                                                    change zV G (d + 1) mL_law (kc + 4) (ks + 300) 1042 [(0, .ref (G.2.2.2.2.2.1 3)), (1, .ref (x)), (2, .ref (m)), (3, .ref (o)), (4, .int (l4))] [.int (x358), .int (x354)] (I359, J360, R361, K, n) Q
                                                    obtain ⟨u362, u363, u364, S365, F⟩ := F
                                                    obtain ⟨u366, u367, S368, F⟩ := F
                                                    obtain ⟨S369, F⟩ := F
                                                    refine zIcmp_eq 541 1583 1045 (by decide +kernel) rfl rfl ⟨fun q370 => ?_, fun q370 => ?_⟩
                                                    · replace F := F.1 q370
                                                      refine zIinc 4 6 4 (l4 + 6) [(4, .int (l4 + 6)), (0, .ref (G.2.2.2.2.2.1 3)), (1, .ref (x)), (2, .ref (m)), (3, .ref (o))] 1586 (by decide +kernel) rfl rfl (by rfl) (by decide) rfl ?_
                                                      refine zGoto (-1563) 23 (by decide +kernel) rfl ?_
                                                      exact zLoc [1, 2, 3, 4, 0] _ rfl F
                                                    · replace F := F.2 q370
                                                      refine zIconst 0 0 1046 (by decide +kernel) rfl (by decide) ?_
                                                      exact zZret .boolean rfl (zNarZ (Or.inl rfl)) (by decide +kernel) F
                                                  · skip
                                                    by_cases q371 : ((G.2.2.2.2.2.2.2 l4.toNatClampNeg) &&& 63) = 24
                                                    · replace F := F.2.2.2.2.2.2.2.2.2.2.2.2.2.2.2.2.2.2.2.2.2.2.2.2.1 q371
                                                      have zt := zEqT q371 (show (24 : Int32).toInt = 24 by decide)
                                                      refine zTableIn 1543 0 39 #[176, 249, 274, 299, 324, 392, 429, 454, 479, 504, 541, 566, 615, 640, 665, 678, 747, 760, 797, 846, 883, 908, 945, 970, 1007, 1032, 1097, 1134, 1159, 1172, 1209, 1246, 1319, 1368, 1405, 1442, 1467, 1492, 1505, 1518] 176 1007 1047 (by decide +kernel) (by omega) (by omega) (by rw [zt]; decide) rfl ?_
                                                      refine zAload_n 1 1 1048 (by decide +kernel) rfl rfl ?_
                                                      refine zAload_n 0 0 1049 (by decide +kernel) rfl rfl ?_
                                                      refine zIload 4 4 1051 (by decide +kernel) rfl rfl ?_
                                                      refine zIconst 1 1 1052 (by decide +kernel) rfl (by decide) ?_
                                                      refine zIadd 1053 (by decide +kernel) rfl ?_
                                                      obtain ⟨w372, F⟩ := F
                                                      refine zSaload 1054 (by decide +kernel) rfl (w372) ?_
                                                      refine zCallV 11 zcls11 mX11_pairs 128 1 0 0 _ _ 1057 [.int (G.2.2.2.2.2.2.2 (l4 + 1 : Int32).toNatClampNeg)] [] okX11_pairs mlL_128 imX11_pairs seX11_pairs (by decide +kernel) rfl rfl (Nat.le_of_ble_eq_true rfl) rfl rfl (X_0 S0_) (zC.mono F ?_)
                                                      rintro _ _ ⟨x373, I374, rfl, rfl, F⟩
                                                      change zV G (d + 1) mL_law (kc + 4) (ks + 300) 1057 [(0, .ref (G.2.2.2.2.2.1 3)), (1, .ref (x)), (2, .ref (m)), (3, .ref (o)), (4, .int (l4))] [.int (x373)] (I374, J, R, K, n) Q
                                                      refine zAload_n 2 2 1058 (by decide +kernel) rfl rfl ?_
                                                      refine zAload_n 0 0 1059 (by decide +kernel) rfl rfl ?_
                                                      refine zIload 4 4 1061 (by decide +kernel) rfl rfl ?_
                                                      refine zIconst 1 1 1062 (by decide +kernel) rfl (by decide) ?_
                                                      refine zIadd 1063 (by decide +kernel) rfl ?_
                                                      obtain ⟨w375, F⟩ := F
                                                      refine zSaload 1064 (by decide +kernel) rfl (w375) ?_
                                                      refine zCallV 12 zcls12 mX12_pairs 131 1 0 0 _ _ 1067 [.int (G.2.2.2.2.2.2.2 (l4 + 1 : Int32).toNatClampNeg)] [.int (x373)] okX12_pairs mlL_131 imX12_pairs seX12_pairs (by decide +kernel) rfl rfl (Nat.le_of_ble_eq_true rfl) rfl rfl (Mod_0 S1_) (zC.mono F ?_)
                                                      rintro _ _ ⟨x376, I377, J378, R379, rfl, rfl, F⟩
                                                      change zV G (d + 1) mL_law (kc + 4) (ks + 300) 1067 [(0, .ref (G.2.2.2.2.2.1 3)), (1, .ref (x)), (2, .ref (m)), (3, .ref (o)), (4, .int (l4))] [.int (x376), .int (x373)] (I377, J378, R379, K, n) Q
                                                      obtain ⟨u380, u381, u382, S383, F⟩ := F
                                                      obtain ⟨u384, u385, S386, F⟩ := F
                                                      obtain ⟨S387, F⟩ := F
                                                      refine zIcmp_eq 516 1583 1070 (by decide +kernel) rfl rfl ⟨fun q388 => ?_, fun q388 => ?_⟩
                                                      · replace F := F.1 q388
                                                        refine zIinc 4 6 4 (l4 + 6) [(4, .int (l4 + 6)), (0, .ref (G.2.2.2.2.2.1 3)), (1, .ref (x)), (2, .ref (m)), (3, .ref (o))] 1586 (by decide +kernel) rfl rfl (by rfl) (by decide) rfl ?_
                                                        refine zGoto (-1563) 23 (by decide +kernel) rfl ?_
                                                        exact zLoc [1, 2, 3, 4, 0] _ rfl F
                                                      · replace F := F.2 q388
                                                        refine zIconst 0 0 1071 (by decide +kernel) rfl (by decide) ?_
                                                        exact zZret .boolean rfl (zNarZ (Or.inl rfl)) (by decide +kernel) F
                                                    · skip
                                                      by_cases q389 : ((G.2.2.2.2.2.2.2 l4.toNatClampNeg) &&& 63) = 25
                                                      · replace F := F.2.2.2.2.2.2.2.2.2.2.2.2.2.2.2.2.2.2.2.2.2.2.2.2.2.1 q389
                                                        have zt := zEqT q389 (show (25 : Int32).toInt = 25 by decide)
                                                        refine zTableIn 1543 0 39 #[176, 249, 274, 299, 324, 392, 429, 454, 479, 504, 541, 566, 615, 640, 665, 678, 747, 760, 797, 846, 883, 908, 945, 970, 1007, 1032, 1097, 1134, 1159, 1172, 1209, 1246, 1319, 1368, 1405, 1442, 1467, 1492, 1505, 1518] 176 1032 1072 (by decide +kernel) (by omega) (by omega) (by rw [zt]; decide) rfl ?_
                                                        refine zAload_n 1 1 1073 (by decide +kernel) rfl rfl ?_
                                                        refine zAload_n 0 0 1074 (by decide +kernel) rfl rfl ?_
                                                        refine zIload 4 4 1076 (by decide +kernel) rfl rfl ?_
                                                        refine zIconst 1 1 1077 (by decide +kernel) rfl (by decide) ?_
                                                        refine zIadd 1078 (by decide +kernel) rfl ?_
                                                        obtain ⟨w390, F⟩ := F
                                                        refine zSaload 1079 (by decide +kernel) rfl (w390) ?_
                                                        refine zAload_n 0 0 1080 (by decide +kernel) rfl rfl ?_
                                                        refine zIload 4 4 1082 (by decide +kernel) rfl rfl ?_
                                                        refine zIconst 2 2 1083 (by decide +kernel) rfl (by decide) ?_
                                                        refine zIadd 1084 (by decide +kernel) rfl ?_
                                                        obtain ⟨w391, F⟩ := F
                                                        refine zSaload 1085 (by decide +kernel) rfl (w391) ?_
                                                        refine zAload_n 0 0 1086 (by decide +kernel) rfl rfl ?_
                                                        refine zIload 4 4 1088 (by decide +kernel) rfl rfl ?_
                                                        refine zIconst 3 3 1089 (by decide +kernel) rfl (by decide) ?_
                                                        refine zIadd 1090 (by decide +kernel) rfl ?_
                                                        obtain ⟨w392, F⟩ := F
                                                        refine zSaload 1091 (by decide +kernel) rfl (w392) ?_
                                                        suffices KK : zV G (d + 1) mL_law (kc + 4) (ks + 300) 1099 [(0, .ref (G.2.2.2.2.2.1 3)), (1, .ref (x)), (2, .ref (m)), (3, .ref (o)), (4, .int (l4))] [.int ((if (G.2.2.2.2.2.2.2 (l4 + 3 : Int32).toNatClampNeg : Int32) = 0 then 0 else 1)), .int (G.2.2.2.2.2.2.2 (l4 + 2 : Int32).toNatClampNeg), .int (G.2.2.2.2.2.2.2 (l4 + 1 : Int32).toNatClampNeg), .ref (x)] (I, J, R, K, n) Q by
                                                          refine zIf_eq 7 1098 1094 (by decide +kernel) rfl rfl ⟨fun q393 => ?_, fun q393 => ?_⟩
                                                          · refine zIconst 0 0 1099 (by decide +kernel) rfl (by decide) ?_
                                                            exact zTop (by rw [if_pos q393]) KK
                                                          · refine zIconst 1 1 1095 (by decide +kernel) rfl (by decide) ?_
                                                            refine zGoto 4 1099 (by decide +kernel) rfl ?_
                                                            exact zTop (by rw [if_neg q393]) KK
                                                        refine zCallV 11 zcls11 mX11_seen 132 3 0 0 _ _ 1102 [.int (G.2.2.2.2.2.2.2 (l4 + 1 : Int32).toNatClampNeg), .int (G.2.2.2.2.2.2.2 (l4 + 2 : Int32).toNatClampNeg), .int ((if (G.2.2.2.2.2.2.2 (l4 + 3 : Int32).toNatClampNeg : Int32) = 0 then 0 else 1))] [] okX11_seen mlL_132 imX11_seen seX11_seen (by decide +kernel) rfl rfl (Nat.le_of_ble_eq_true rfl) rfl rfl (X_0 S0_) (zC.mono F ?_)
                                                        rintro _ _ ⟨x394, I395, rfl, rfl, F⟩
                                                        change zV G (d + 1) mL_law (kc + 4) (ks + 300) 1102 [(0, .ref (G.2.2.2.2.2.1 3)), (1, .ref (x)), (2, .ref (m)), (3, .ref (o)), (4, .int (l4))] [.int (x394)] (I395, J, R, K, n) Q
                                                        refine zAload_n 2 2 1103 (by decide +kernel) rfl rfl ?_
                                                        refine zAload_n 0 0 1104 (by decide +kernel) rfl rfl ?_
                                                        refine zIload 4 4 1106 (by decide +kernel) rfl rfl ?_
                                                        refine zIconst 1 1 1107 (by decide +kernel) rfl (by decide) ?_
                                                        refine zIadd 1108 (by decide +kernel) rfl ?_
                                                        obtain ⟨w396, F⟩ := F
                                                        refine zSaload 1109 (by decide +kernel) rfl (w396) ?_
                                                        refine zAload_n 0 0 1110 (by decide +kernel) rfl rfl ?_
                                                        refine zIload 4 4 1112 (by decide +kernel) rfl rfl ?_
                                                        refine zIconst 2 2 1113 (by decide +kernel) rfl (by decide) ?_
                                                        refine zIadd 1114 (by decide +kernel) rfl ?_
                                                        obtain ⟨w397, F⟩ := F
                                                        refine zSaload 1115 (by decide +kernel) rfl (w397) ?_
                                                        refine zAload_n 0 0 1116 (by decide +kernel) rfl rfl ?_
                                                        refine zIload 4 4 1118 (by decide +kernel) rfl rfl ?_
                                                        refine zIconst 3 3 1119 (by decide +kernel) rfl (by decide) ?_
                                                        refine zIadd 1120 (by decide +kernel) rfl ?_
                                                        obtain ⟨w398, F⟩ := F
                                                        refine zSaload 1121 (by decide +kernel) rfl (w398) ?_
                                                        suffices KK : zV G (d + 1) mL_law (kc + 4) (ks + 300) 1129 [(0, .ref (G.2.2.2.2.2.1 3)), (1, .ref (x)), (2, .ref (m)), (3, .ref (o)), (4, .int (l4))] [.int ((if (G.2.2.2.2.2.2.2 (l4 + 3 : Int32).toNatClampNeg : Int32) = 0 then 0 else 1)), .int (G.2.2.2.2.2.2.2 (l4 + 2 : Int32).toNatClampNeg), .int (G.2.2.2.2.2.2.2 (l4 + 1 : Int32).toNatClampNeg), .ref (m), .int (x394)] (I395, J, R, K, n) Q by
                                                          refine zIf_eq 7 1128 1124 (by decide +kernel) rfl rfl ⟨fun q399 => ?_, fun q399 => ?_⟩
                                                          · refine zIconst 0 0 1129 (by decide +kernel) rfl (by decide) ?_
                                                            exact zTop (by rw [if_pos q399]) KK
                                                          · refine zIconst 1 1 1125 (by decide +kernel) rfl (by decide) ?_
                                                            refine zGoto 4 1129 (by decide +kernel) rfl ?_
                                                            exact zTop (by rw [if_neg q399]) KK
                                                        refine zCallV 12 zcls12 mX12_seen 136 3 0 0 _ _ 1132 [.int (G.2.2.2.2.2.2.2 (l4 + 1 : Int32).toNatClampNeg), .int (G.2.2.2.2.2.2.2 (l4 + 2 : Int32).toNatClampNeg), .int ((if (G.2.2.2.2.2.2.2 (l4 + 3 : Int32).toNatClampNeg : Int32) = 0 then 0 else 1))] [.int (x394)] okX12_seen mlL_136 imX12_seen seX12_seen (by decide +kernel) rfl rfl (Nat.le_of_ble_eq_true rfl) rfl rfl (Mod_0 S1_) (zC.mono F ?_)
                                                        rintro _ _ ⟨x400, I401, rfl, rfl, F⟩
                                                        change zV G (d + 1) mL_law (kc + 4) (ks + 300) 1132 [(0, .ref (G.2.2.2.2.2.1 3)), (1, .ref (x)), (2, .ref (m)), (3, .ref (o)), (4, .int (l4))] [.int (x400), .int (x394)] (I401, J, R, K, n) Q
                                                        refine zIcmp_eq 451 1583 1135 (by decide +kernel) rfl rfl ⟨fun q402 => ?_, fun q402 => ?_⟩
                                                        · replace F := F.1 q402
                                                          refine zIinc 4 6 4 (l4 + 6) [(4, .int (l4 + 6)), (0, .ref (G.2.2.2.2.2.1 3)), (1, .ref (x)), (2, .ref (m)), (3, .ref (o))] 1586 (by decide +kernel) rfl rfl (by rfl) (by decide) rfl ?_
                                                          refine zGoto (-1563) 23 (by decide +kernel) rfl ?_
                                                          exact zLoc [1, 2, 3, 4, 0] _ rfl F
                                                        · replace F := F.2 q402
                                                          refine zIconst 0 0 1136 (by decide +kernel) rfl (by decide) ?_
                                                          exact zZret .boolean rfl (zNarZ (Or.inl rfl)) (by decide +kernel) F
                                                      · skip
                                                        by_cases q403 : ((G.2.2.2.2.2.2.2 l4.toNatClampNeg) &&& 63) = 26
                                                        · replace F := F.2.2.2.2.2.2.2.2.2.2.2.2.2.2.2.2.2.2.2.2.2.2.2.2.2.2.1 q403
                                                          have zt := zEqT q403 (show (26 : Int32).toInt = 26 by decide)
                                                          refine zTableIn 1543 0 39 #[176, 249, 274, 299, 324, 392, 429, 454, 479, 504, 541, 566, 615, 640, 665, 678, 747, 760, 797, 846, 883, 908, 945, 970, 1007, 1032, 1097, 1134, 1159, 1172, 1209, 1246, 1319, 1368, 1405, 1442, 1467, 1492, 1505, 1518] 176 1097 1137 (by decide +kernel) (by omega) (by omega) (by rw [zt]; decide) rfl ?_
                                                          refine zAload_n 1 1 1138 (by decide +kernel) rfl rfl ?_
                                                          refine zAload_n 0 0 1139 (by decide +kernel) rfl rfl ?_
                                                          refine zIload 4 4 1141 (by decide +kernel) rfl rfl ?_
                                                          refine zIconst 1 1 1142 (by decide +kernel) rfl (by decide) ?_
                                                          refine zIadd 1143 (by decide +kernel) rfl ?_
                                                          obtain ⟨w404, F⟩ := F
                                                          refine zSaload 1144 (by decide +kernel) rfl (w404) ?_
                                                          refine zAload_n 0 0 1145 (by decide +kernel) rfl rfl ?_
                                                          refine zIload 4 4 1147 (by decide +kernel) rfl rfl ?_
                                                          refine zIconst 2 2 1148 (by decide +kernel) rfl (by decide) ?_
                                                          refine zIadd 1149 (by decide +kernel) rfl ?_
                                                          obtain ⟨w405, F⟩ := F
                                                          refine zSaload 1150 (by decide +kernel) rfl (w405) ?_
                                                          refine zCallV 11 zcls11 mX11_weights 137 2 0 0 _ _ 1153 [.int (G.2.2.2.2.2.2.2 (l4 + 1 : Int32).toNatClampNeg), .int (G.2.2.2.2.2.2.2 (l4 + 2 : Int32).toNatClampNeg)] [] okX11_weights mlL_137 imX11_weights seX11_weights (by decide +kernel) rfl rfl (Nat.le_of_ble_eq_true rfl) rfl rfl (X_0 S0_) (zC.mono F ?_)
                                                          rintro _ _ ⟨x406, I407, rfl, rfl, F⟩
                                                          change zV G (d + 1) mL_law (kc + 4) (ks + 300) 1153 [(0, .ref (G.2.2.2.2.2.1 3)), (1, .ref (x)), (2, .ref (m)), (3, .ref (o)), (4, .int (l4))] [.int (x406)] (I407, J, R, K, n) Q
                                                          refine zAload_n 2 2 1154 (by decide +kernel) rfl rfl ?_
                                                          refine zAload_n 0 0 1155 (by decide +kernel) rfl rfl ?_
                                                          refine zIload 4 4 1157 (by decide +kernel) rfl rfl ?_
                                                          refine zIconst 1 1 1158 (by decide +kernel) rfl (by decide) ?_
                                                          refine zIadd 1159 (by decide +kernel) rfl ?_
                                                          obtain ⟨w408, F⟩ := F
                                                          refine zSaload 1160 (by decide +kernel) rfl (w408) ?_
                                                          refine zAload_n 0 0 1161 (by decide +kernel) rfl rfl ?_
                                                          refine zIload 4 4 1163 (by decide +kernel) rfl rfl ?_
                                                          refine zIconst 2 2 1164 (by decide +kernel) rfl (by decide) ?_
                                                          refine zIadd 1165 (by decide +kernel) rfl ?_
                                                          obtain ⟨w409, F⟩ := F
                                                          refine zSaload 1166 (by decide +kernel) rfl (w409) ?_
                                                          refine zCallV 12 zcls12 mX12_weights 140 2 0 0 _ _ 1169 [.int (G.2.2.2.2.2.2.2 (l4 + 1 : Int32).toNatClampNeg), .int (G.2.2.2.2.2.2.2 (l4 + 2 : Int32).toNatClampNeg)] [.int (x406)] okX12_weights mlL_140 imX12_weights seX12_weights (by decide +kernel) rfl rfl (Nat.le_of_ble_eq_true rfl) rfl rfl (Mod_0 S1_) (zC.mono F ?_)
                                                          rintro _ _ ⟨x410, I411, J412, R413, rfl, rfl, F⟩
                                                          change zV G (d + 1) mL_law (kc + 4) (ks + 300) 1169 [(0, .ref (G.2.2.2.2.2.1 3)), (1, .ref (x)), (2, .ref (m)), (3, .ref (o)), (4, .int (l4))] [.int (x410), .int (x406)] (I411, J412, R413, K, n) Q
                                                          obtain ⟨u414, u415, u416, S417, F⟩ := F
                                                          obtain ⟨u418, u419, S420, F⟩ := F
                                                          obtain ⟨S421, F⟩ := F
                                                          refine zIcmp_eq 414 1583 1172 (by decide +kernel) rfl rfl ⟨fun q422 => ?_, fun q422 => ?_⟩
                                                          · replace F := F.1 q422
                                                            refine zIinc 4 6 4 (l4 + 6) [(4, .int (l4 + 6)), (0, .ref (G.2.2.2.2.2.1 3)), (1, .ref (x)), (2, .ref (m)), (3, .ref (o))] 1586 (by decide +kernel) rfl rfl (by rfl) (by decide) rfl ?_
                                                            refine zGoto (-1563) 23 (by decide +kernel) rfl ?_
                                                            exact zLoc [1, 2, 3, 4, 0] _ rfl F
                                                          · replace F := F.2 q422
                                                            refine zIconst 0 0 1173 (by decide +kernel) rfl (by decide) ?_
                                                            exact zZret .boolean rfl (zNarZ (Or.inl rfl)) (by decide +kernel) F
                                                        · skip
                                                          by_cases q423 : ((G.2.2.2.2.2.2.2 l4.toNatClampNeg) &&& 63) = 27
                                                          · replace F := F.2.2.2.2.2.2.2.2.2.2.2.2.2.2.2.2.2.2.2.2.2.2.2.2.2.2.2.1 q423
                                                            have zt := zEqT q423 (show (27 : Int32).toInt = 27 by decide)
                                                            refine zTableIn 1543 0 39 #[176, 249, 274, 299, 324, 392, 429, 454, 479, 504, 541, 566, 615, 640, 665, 678, 747, 760, 797, 846, 883, 908, 945, 970, 1007, 1032, 1097, 1134, 1159, 1172, 1209, 1246, 1319, 1368, 1405, 1442, 1467, 1492, 1505, 1518] 176 1134 1174 (by decide +kernel) (by omega) (by omega) (by rw [zt]; decide) rfl ?_
                                                            refine zAload_n 1 1 1175 (by decide +kernel) rfl rfl ?_
                                                            refine zAload_n 0 0 1176 (by decide +kernel) rfl rfl ?_
                                                            refine zIload 4 4 1178 (by decide +kernel) rfl rfl ?_
                                                            refine zIconst 1 1 1179 (by decide +kernel) rfl (by decide) ?_
                                                            refine zIadd 1180 (by decide +kernel) rfl ?_
                                                            obtain ⟨w424, F⟩ := F
                                                            refine zSaload 1181 (by decide +kernel) rfl (w424) ?_
                                                            refine zCallV 11 zcls11 mX11_ask 141 1 0 0 _ _ 1184 [.int (G.2.2.2.2.2.2.2 (l4 + 1 : Int32).toNatClampNeg)] [] okX11_ask mlL_141 imX11_ask seX11_ask (by decide +kernel) rfl rfl (Nat.le_of_ble_eq_true rfl) rfl rfl (X_0 S0_) (zC.mono F ?_)
                                                            rintro _ _ ⟨x425, I426, rfl, rfl, F⟩
                                                            change zV G (d + 1) mL_law (kc + 4) (ks + 300) 1184 [(0, .ref (G.2.2.2.2.2.1 3)), (1, .ref (x)), (2, .ref (m)), (3, .ref (o)), (4, .int (l4))] [.int (x425)] (I426, J, R, K, n) Q
                                                            refine zAload_n 2 2 1185 (by decide +kernel) rfl rfl ?_
                                                            refine zAload_n 0 0 1186 (by decide +kernel) rfl rfl ?_
                                                            refine zIload 4 4 1188 (by decide +kernel) rfl rfl ?_
                                                            refine zIconst 1 1 1189 (by decide +kernel) rfl (by decide) ?_
                                                            refine zIadd 1190 (by decide +kernel) rfl ?_
                                                            obtain ⟨w427, F⟩ := F
                                                            refine zSaload 1191 (by decide +kernel) rfl (w427) ?_
                                                            refine zCallV 12 zcls12 mX12_ask 144 1 0 0 _ _ 1194 [.int (G.2.2.2.2.2.2.2 (l4 + 1 : Int32).toNatClampNeg)] [.int (x425)] okX12_ask mlL_144 imX12_ask seX12_ask (by decide +kernel) rfl rfl (Nat.le_of_ble_eq_true rfl) rfl rfl (Mod_0 S1_) (zC.mono F ?_)
                                                            rintro _ _ ⟨x428, I429, J430, R431, rfl, rfl, F⟩
                                                            change zV G (d + 1) mL_law (kc + 4) (ks + 300) 1194 [(0, .ref (G.2.2.2.2.2.1 3)), (1, .ref (x)), (2, .ref (m)), (3, .ref (o)), (4, .int (l4))] [.int (x428), .int (x425)] (I429, J430, R431, K, n) Q
                                                            obtain ⟨u432, u433, u434, S435, F⟩ := F
                                                            obtain ⟨u436, u437, S438, F⟩ := F
                                                            obtain ⟨S439, F⟩ := F
                                                            refine zIcmp_eq 389 1583 1197 (by decide +kernel) rfl rfl ⟨fun q440 => ?_, fun q440 => ?_⟩
                                                            · replace F := F.1 q440
                                                              refine zIinc 4 6 4 (l4 + 6) [(4, .int (l4 + 6)), (0, .ref (G.2.2.2.2.2.1 3)), (1, .ref (x)), (2, .ref (m)), (3, .ref (o))] 1586 (by decide +kernel) rfl rfl (by rfl) (by decide) rfl ?_
                                                              refine zGoto (-1563) 23 (by decide +kernel) rfl ?_
                                                              exact zLoc [1, 2, 3, 4, 0] _ rfl F
                                                            · replace F := F.2 q440
                                                              refine zIconst 0 0 1198 (by decide +kernel) rfl (by decide) ?_
                                                              exact zZret .boolean rfl (zNarZ (Or.inl rfl)) (by decide +kernel) F
                                                          · skip
                                                            by_cases q441 : ((G.2.2.2.2.2.2.2 l4.toNatClampNeg) &&& 63) = 28
                                                            · replace F := F.2.2.2.2.2.2.2.2.2.2.2.2.2.2.2.2.2.2.2.2.2.2.2.2.2.2.2.2.1 q441
                                                              have zt := zEqT q441 (show (28 : Int32).toInt = 28 by decide)
                                                              refine zTableIn 1543 0 39 #[176, 249, 274, 299, 324, 392, 429, 454, 479, 504, 541, 566, 615, 640, 665, 678, 747, 760, 797, 846, 883, 908, 945, 970, 1007, 1032, 1097, 1134, 1159, 1172, 1209, 1246, 1319, 1368, 1405, 1442, 1467, 1492, 1505, 1518] 176 1159 1199 (by decide +kernel) (by omega) (by omega) (by rw [zt]; decide) rfl ?_
                                                              refine zAload_n 1 1 1200 (by decide +kernel) rfl rfl ?_
                                                              refine zCallV 11 zcls11 mX11_ring 145 0 0 0 _ _ 1203 [] [] okX11_ring mlL_145 imX11_ring seX11_ring (by decide +kernel) rfl rfl (Nat.le_of_ble_eq_true rfl) rfl rfl (X_0 S0_) (zC.mono F ?_)
                                                              rintro _ _ ⟨x442, I443, rfl, rfl, F⟩
                                                              change zV G (d + 1) mL_law (kc + 4) (ks + 300) 1203 [(0, .ref (G.2.2.2.2.2.1 3)), (1, .ref (x)), (2, .ref (m)), (3, .ref (o)), (4, .int (l4))] [.int (x442)] (I443, J, R, K, n) Q
                                                              refine zAload_n 2 2 1204 (by decide +kernel) rfl rfl ?_
                                                              refine zCallV 12 zcls12 mX12_ring 148 0 0 0 _ _ 1207 [] [.int (x442)] okX12_ring mlL_148 imX12_ring seX12_ring (by decide +kernel) rfl rfl (Nat.le_of_ble_eq_true rfl) rfl rfl (Mod_0 S1_) (zC.mono F ?_)
                                                              rintro _ _ ⟨x444, I445, rfl, rfl, F⟩
                                                              change zV G (d + 1) mL_law (kc + 4) (ks + 300) 1207 [(0, .ref (G.2.2.2.2.2.1 3)), (1, .ref (x)), (2, .ref (m)), (3, .ref (o)), (4, .int (l4))] [.int (x444), .int (x442)] (I445, J, R, K, n) Q
                                                              refine zIcmp_eq 376 1583 1210 (by decide +kernel) rfl rfl ⟨fun q446 => ?_, fun q446 => ?_⟩
                                                              · replace F := F.1 q446
                                                                refine zIinc 4 6 4 (l4 + 6) [(4, .int (l4 + 6)), (0, .ref (G.2.2.2.2.2.1 3)), (1, .ref (x)), (2, .ref (m)), (3, .ref (o))] 1586 (by decide +kernel) rfl rfl (by rfl) (by decide) rfl ?_
                                                                refine zGoto (-1563) 23 (by decide +kernel) rfl ?_
                                                                exact zLoc [1, 2, 3, 4, 0] _ rfl F
                                                              · replace F := F.2 q446
                                                                refine zIconst 0 0 1211 (by decide +kernel) rfl (by decide) ?_
                                                                exact zZret .boolean rfl (zNarZ (Or.inl rfl)) (by decide +kernel) F
                                                            · skip
                                                              by_cases q447 : ((G.2.2.2.2.2.2.2 l4.toNatClampNeg) &&& 63) = 29
                                                              · replace F := F.2.2.2.2.2.2.2.2.2.2.2.2.2.2.2.2.2.2.2.2.2.2.2.2.2.2.2.2.2.1 q447
                                                                have zt := zEqT q447 (show (29 : Int32).toInt = 29 by decide)
                                                                refine zTableIn 1543 0 39 #[176, 249, 274, 299, 324, 392, 429, 454, 479, 504, 541, 566, 615, 640, 665, 678, 747, 760, 797, 846, 883, 908, 945, 970, 1007, 1032, 1097, 1134, 1159, 1172, 1209, 1246, 1319, 1368, 1405, 1442, 1467, 1492, 1505, 1518] 176 1172 1212 (by decide +kernel) (by omega) (by omega) (by rw [zt]; decide) rfl ?_
                                                                refine zAload_n 1 1 1213 (by decide +kernel) rfl rfl ?_
                                                                refine zAload_n 0 0 1214 (by decide +kernel) rfl rfl ?_
                                                                refine zIload 4 4 1216 (by decide +kernel) rfl rfl ?_
                                                                refine zIconst 1 1 1217 (by decide +kernel) rfl (by decide) ?_
                                                                refine zIadd 1218 (by decide +kernel) rfl ?_
                                                                obtain ⟨w448, F⟩ := F
                                                                refine zSaload 1219 (by decide +kernel) rfl (w448) ?_
                                                                refine zAload_n 0 0 1220 (by decide +kernel) rfl rfl ?_
                                                                refine zIload 4 4 1222 (by decide +kernel) rfl rfl ?_
                                                                refine zIconst 2 2 1223 (by decide +kernel) rfl (by decide) ?_
                                                                refine zIadd 1224 (by decide +kernel) rfl ?_
                                                                obtain ⟨w449, F⟩ := F
                                                                refine zSaload 1225 (by decide +kernel) rfl (w449) ?_
                                                                refine zCallV 11 zcls11 mX11_chain 149 2 0 0 _ _ 1228 [.int (G.2.2.2.2.2.2.2 (l4 + 1 : Int32).toNatClampNeg), .int (G.2.2.2.2.2.2.2 (l4 + 2 : Int32).toNatClampNeg)] [] okX11_chain mlL_149 imX11_chain seX11_chain (by decide +kernel) rfl rfl (Nat.le_of_ble_eq_true rfl) rfl rfl (X_0 S0_) (zC.mono F ?_)
                                                                rintro _ _ ⟨x450, I451, rfl, rfl, F⟩
                                                                change zV G (d + 1) mL_law (kc + 4) (ks + 300) 1228 [(0, .ref (G.2.2.2.2.2.1 3)), (1, .ref (x)), (2, .ref (m)), (3, .ref (o)), (4, .int (l4))] [.int (x450)] (I451, J, R, K, n) Q
                                                                refine zAload_n 2 2 1229 (by decide +kernel) rfl rfl ?_
                                                                refine zAload_n 0 0 1230 (by decide +kernel) rfl rfl ?_
                                                                refine zIload 4 4 1232 (by decide +kernel) rfl rfl ?_
                                                                refine zIconst 1 1 1233 (by decide +kernel) rfl (by decide) ?_
                                                                refine zIadd 1234 (by decide +kernel) rfl ?_
                                                                obtain ⟨w452, F⟩ := F
                                                                refine zSaload 1235 (by decide +kernel) rfl (w452) ?_
                                                                refine zAload_n 0 0 1236 (by decide +kernel) rfl rfl ?_
                                                                refine zIload 4 4 1238 (by decide +kernel) rfl rfl ?_
                                                                refine zIconst 2 2 1239 (by decide +kernel) rfl (by decide) ?_
                                                                refine zIadd 1240 (by decide +kernel) rfl ?_
                                                                obtain ⟨w453, F⟩ := F
                                                                refine zSaload 1241 (by decide +kernel) rfl (w453) ?_
                                                                refine zCallV 12 zcls12 mX12_chain 152 2 0 0 _ _ 1244 [.int (G.2.2.2.2.2.2.2 (l4 + 1 : Int32).toNatClampNeg), .int (G.2.2.2.2.2.2.2 (l4 + 2 : Int32).toNatClampNeg)] [.int (x450)] okX12_chain mlL_152 imX12_chain seX12_chain (by decide +kernel) rfl rfl (Nat.le_of_ble_eq_true rfl) rfl rfl (Mod_0 S1_) (zC.mono F ?_)
                                                                rintro _ _ ⟨x454, I455, rfl, rfl, F⟩
                                                                change zV G (d + 1) mL_law (kc + 4) (ks + 300) 1244 [(0, .ref (G.2.2.2.2.2.1 3)), (1, .ref (x)), (2, .ref (m)), (3, .ref (o)), (4, .int (l4))] [.int (x454), .int (x450)] (I455, J, R, K, n) Q
                                                                refine zIcmp_eq 339 1583 1247 (by decide +kernel) rfl rfl ⟨fun q456 => ?_, fun q456 => ?_⟩
                                                                · replace F := F.1 q456
                                                                  refine zIinc 4 6 4 (l4 + 6) [(4, .int (l4 + 6)), (0, .ref (G.2.2.2.2.2.1 3)), (1, .ref (x)), (2, .ref (m)), (3, .ref (o))] 1586 (by decide +kernel) rfl rfl (by rfl) (by decide) rfl ?_
                                                                  refine zGoto (-1563) 23 (by decide +kernel) rfl ?_
                                                                  exact zLoc [1, 2, 3, 4, 0] _ rfl F
                                                                · replace F := F.2 q456
                                                                  refine zIconst 0 0 1248 (by decide +kernel) rfl (by decide) ?_
                                                                  exact zZret .boolean rfl (zNarZ (Or.inl rfl)) (by decide +kernel) F
                                                              · skip
                                                                by_cases q457 : ((G.2.2.2.2.2.2.2 l4.toNatClampNeg) &&& 63) = 30
                                                                · replace F := F.2.2.2.2.2.2.2.2.2.2.2.2.2.2.2.2.2.2.2.2.2.2.2.2.2.2.2.2.2.2.1 q457
                                                                  have zt := zEqT q457 (show (30 : Int32).toInt = 30 by decide)
                                                                  refine zTableIn 1543 0 39 #[176, 249, 274, 299, 324, 392, 429, 454, 479, 504, 541, 566, 615, 640, 665, 678, 747, 760, 797, 846, 883, 908, 945, 970, 1007, 1032, 1097, 1134, 1159, 1172, 1209, 1246, 1319, 1368, 1405, 1442, 1467, 1492, 1505, 1518] 176 1209 1249 (by decide +kernel) (by omega) (by omega) (by rw [zt]; decide) rfl ?_
                                                                  refine zAload_n 1 1 1250 (by decide +kernel) rfl rfl ?_
                                                                  refine zAload_n 0 0 1251 (by decide +kernel) rfl rfl ?_
                                                                  refine zIload 4 4 1253 (by decide +kernel) rfl rfl ?_
                                                                  refine zIconst 1 1 1254 (by decide +kernel) rfl (by decide) ?_
                                                                  refine zIadd 1255 (by decide +kernel) rfl ?_
                                                                  obtain ⟨w458, F⟩ := F
                                                                  refine zSaload 1256 (by decide +kernel) rfl (w458) ?_
                                                                  refine zAload_n 0 0 1257 (by decide +kernel) rfl rfl ?_
                                                                  refine zIload 4 4 1259 (by decide +kernel) rfl rfl ?_
                                                                  refine zIconst 2 2 1260 (by decide +kernel) rfl (by decide) ?_
                                                                  refine zIadd 1261 (by decide +kernel) rfl ?_
                                                                  obtain ⟨w459, F⟩ := F
                                                                  refine zSaload 1262 (by decide +kernel) rfl (w459) ?_
                                                                  refine zCallV 11 zcls11 mX11_score 153 2 0 0 _ _ 1265 [.int (G.2.2.2.2.2.2.2 (l4 + 1 : Int32).toNatClampNeg), .int (G.2.2.2.2.2.2.2 (l4 + 2 : Int32).toNatClampNeg)] [] okX11_score mlL_153 imX11_score seX11_score (by decide +kernel) rfl rfl (Nat.le_of_ble_eq_true rfl) rfl rfl (X_0 S0_) (zC.mono F ?_)
                                                                  rintro _ _ ⟨x460, I461, rfl, rfl, F⟩
                                                                  change zV G (d + 1) mL_law (kc + 4) (ks + 300) 1265 [(0, .ref (G.2.2.2.2.2.1 3)), (1, .ref (x)), (2, .ref (m)), (3, .ref (o)), (4, .int (l4))] [.int (x460)] (I461, J, R, K, n) Q
                                                                  refine zAload_n 2 2 1266 (by decide +kernel) rfl rfl ?_
                                                                  refine zAload_n 0 0 1267 (by decide +kernel) rfl rfl ?_
                                                                  refine zIload 4 4 1269 (by decide +kernel) rfl rfl ?_
                                                                  refine zIconst 1 1 1270 (by decide +kernel) rfl (by decide) ?_
                                                                  refine zIadd 1271 (by decide +kernel) rfl ?_
                                                                  obtain ⟨w462, F⟩ := F
                                                                  refine zSaload 1272 (by decide +kernel) rfl (w462) ?_
                                                                  refine zAload_n 0 0 1273 (by decide +kernel) rfl rfl ?_
                                                                  refine zIload 4 4 1275 (by decide +kernel) rfl rfl ?_
                                                                  refine zIconst 2 2 1276 (by decide +kernel) rfl (by decide) ?_
                                                                  refine zIadd 1277 (by decide +kernel) rfl ?_
                                                                  obtain ⟨w463, F⟩ := F
                                                                  refine zSaload 1278 (by decide +kernel) rfl (w463) ?_
                                                                  refine zCallV 12 zcls12 mX12_score 156 2 0 0 _ _ 1281 [.int (G.2.2.2.2.2.2.2 (l4 + 1 : Int32).toNatClampNeg), .int (G.2.2.2.2.2.2.2 (l4 + 2 : Int32).toNatClampNeg)] [.int (x460)] okX12_score mlL_156 imX12_score seX12_score (by decide +kernel) rfl rfl (Nat.le_of_ble_eq_true rfl) rfl rfl (Mod_0 S1_) (zC.mono F ?_)
                                                                  rintro _ _ ⟨x464, I465, rfl, rfl, F⟩
                                                                  change zV G (d + 1) mL_law (kc + 4) (ks + 300) 1281 [(0, .ref (G.2.2.2.2.2.1 3)), (1, .ref (x)), (2, .ref (m)), (3, .ref (o)), (4, .int (l4))] [.int (x464), .int (x460)] (I465, J, R, K, n) Q
                                                                  refine zIcmp_eq 302 1583 1284 (by decide +kernel) rfl rfl ⟨fun q466 => ?_, fun q466 => ?_⟩
                                                                  · replace F := F.1 q466
                                                                    refine zIinc 4 6 4 (l4 + 6) [(4, .int (l4 + 6)), (0, .ref (G.2.2.2.2.2.1 3)), (1, .ref (x)), (2, .ref (m)), (3, .ref (o))] 1586 (by decide +kernel) rfl rfl (by rfl) (by decide) rfl ?_
                                                                    refine zGoto (-1563) 23 (by decide +kernel) rfl ?_
                                                                    exact zLoc [1, 2, 3, 4, 0] _ rfl F
                                                                  · replace F := F.2 q466
                                                                    refine zIconst 0 0 1285 (by decide +kernel) rfl (by decide) ?_
                                                                    exact zZret .boolean rfl (zNarZ (Or.inl rfl)) (by decide +kernel) F
                                                                · skip
                                                                  by_cases q467 : ((G.2.2.2.2.2.2.2 l4.toNatClampNeg) &&& 63) = 31
                                                                  · replace F := F.2.2.2.2.2.2.2.2.2.2.2.2.2.2.2.2.2.2.2.2.2.2.2.2.2.2.2.2.2.2.2.1 q467
                                                                    have zt := zEqT q467 (show (31 : Int32).toInt = 31 by decide)
                                                                    refine zTableIn 1543 0 39 #[176, 249, 274, 299, 324, 392, 429, 454, 479, 504, 541, 566, 615, 640, 665, 678, 747, 760, 797, 846, 883, 908, 945, 970, 1007, 1032, 1097, 1134, 1159, 1172, 1209, 1246, 1319, 1368, 1405, 1442, 1467, 1492, 1505, 1518] 176 1246 1286 (by decide +kernel) (by omega) (by omega) (by rw [zt]; decide) rfl ?_
                                                                    refine zAload_n 1 1 1287 (by decide +kernel) rfl rfl ?_
                                                                    refine zAload_n 0 0 1288 (by decide +kernel) rfl rfl ?_
                                                                    refine zIload 4 4 1290 (by decide +kernel) rfl rfl ?_
                                                                    refine zIconst 1 1 1291 (by decide +kernel) rfl (by decide) ?_
                                                                    refine zIadd 1292 (by decide +kernel) rfl ?_
                                                                    obtain ⟨w468, F⟩ := F
                                                                    refine zSaload 1293 (by decide +kernel) rfl (w468) ?_
                                                                    refine zAload_n 0 0 1294 (by decide +kernel) rfl rfl ?_
                                                                    refine zIload 4 4 1296 (by decide +kernel) rfl rfl ?_
                                                                    refine zIconst 2 2 1297 (by decide +kernel) rfl (by decide) ?_
                                                                    refine zIadd 1298 (by decide +kernel) rfl ?_
                                                                    obtain ⟨w469, F⟩ := F
                                                                    refine zSaload 1299 (by decide +kernel) rfl (w469) ?_
                                                                    refine zAload_n 0 0 1300 (by decide +kernel) rfl rfl ?_
                                                                    refine zIload 4 4 1302 (by decide +kernel) rfl rfl ?_
                                                                    refine zIconst 3 3 1303 (by decide +kernel) rfl (by decide) ?_
                                                                    refine zIadd 1304 (by decide +kernel) rfl ?_
                                                                    obtain ⟨w470, F⟩ := F
                                                                    refine zSaload 1305 (by decide +kernel) rfl (w470) ?_
                                                                    refine zAload_n 0 0 1306 (by decide +kernel) rfl rfl ?_
                                                                    refine zIload 4 4 1308 (by decide +kernel) rfl rfl ?_
                                                                    refine zIconst 4 4 1309 (by decide +kernel) rfl (by decide) ?_
                                                                    refine zIadd 1310 (by decide +kernel) rfl ?_
                                                                    obtain ⟨w471, F⟩ := F
                                                                    refine zSaload 1311 (by decide +kernel) rfl (w471) ?_
                                                                    refine zAload_n 0 0 1312 (by decide +kernel) rfl rfl ?_
                                                                    refine zIload 4 4 1314 (by decide +kernel) rfl rfl ?_
                                                                    refine zIconst 5 5 1315 (by decide +kernel) rfl (by decide) ?_
                                                                    refine zIadd 1316 (by decide +kernel) rfl ?_
                                                                    obtain ⟨w472, F⟩ := F
                                                                    refine zSaload 1317 (by decide +kernel) rfl (w472) ?_
                                                                    refine zCallV 11 zcls11 mX11_game 157 5 0 0 _ _ 1320 [.int (G.2.2.2.2.2.2.2 (l4 + 1 : Int32).toNatClampNeg), .int (G.2.2.2.2.2.2.2 (l4 + 2 : Int32).toNatClampNeg), .int (G.2.2.2.2.2.2.2 (l4 + 3 : Int32).toNatClampNeg), .int (G.2.2.2.2.2.2.2 (l4 + 4 : Int32).toNatClampNeg), .int (G.2.2.2.2.2.2.2 (l4 + 5 : Int32).toNatClampNeg)] [] okX11_game mlL_157 imX11_game seX11_game (by decide +kernel) rfl rfl (Nat.le_of_ble_eq_true rfl) rfl rfl (X_0 S0_) (zC.mono F ?_)
                                                                    rintro _ _ ⟨x473, I474, rfl, rfl, F⟩
                                                                    change zV G (d + 1) mL_law (kc + 4) (ks + 300) 1320 [(0, .ref (G.2.2.2.2.2.1 3)), (1, .ref (x)), (2, .ref (m)), (3, .ref (o)), (4, .int (l4))] [.int (x473)] (I474, J, R, K, n) Q
                                                                    refine zAload_n 2 2 1321 (by decide +kernel) rfl rfl ?_
                                                                    refine zAload_n 0 0 1322 (by decide +kernel) rfl rfl ?_
                                                                    refine zIload 4 4 1324 (by decide +kernel) rfl rfl ?_
                                                                    refine zIconst 1 1 1325 (by decide +kernel) rfl (by decide) ?_
                                                                    refine zIadd 1326 (by decide +kernel) rfl ?_
                                                                    obtain ⟨w475, F⟩ := F
                                                                    refine zSaload 1327 (by decide +kernel) rfl (w475) ?_
                                                                    refine zAload_n 0 0 1328 (by decide +kernel) rfl rfl ?_
                                                                    refine zIload 4 4 1330 (by decide +kernel) rfl rfl ?_
                                                                    refine zIconst 2 2 1331 (by decide +kernel) rfl (by decide) ?_
                                                                    refine zIadd 1332 (by decide +kernel) rfl ?_
                                                                    obtain ⟨w476, F⟩ := F
                                                                    refine zSaload 1333 (by decide +kernel) rfl (w476) ?_
                                                                    refine zAload_n 0 0 1334 (by decide +kernel) rfl rfl ?_
                                                                    refine zIload 4 4 1336 (by decide +kernel) rfl rfl ?_
                                                                    refine zIconst 3 3 1337 (by decide +kernel) rfl (by decide) ?_
                                                                    refine zIadd 1338 (by decide +kernel) rfl ?_
                                                                    obtain ⟨w477, F⟩ := F
                                                                    refine zSaload 1339 (by decide +kernel) rfl (w477) ?_
                                                                    refine zAload_n 0 0 1340 (by decide +kernel) rfl rfl ?_
                                                                    refine zIload 4 4 1342 (by decide +kernel) rfl rfl ?_
                                                                    refine zIconst 4 4 1343 (by decide +kernel) rfl (by decide) ?_
                                                                    refine zIadd 1344 (by decide +kernel) rfl ?_
                                                                    obtain ⟨w478, F⟩ := F
                                                                    refine zSaload 1345 (by decide +kernel) rfl (w478) ?_
                                                                    refine zAload_n 0 0 1346 (by decide +kernel) rfl rfl ?_
                                                                    refine zIload 4 4 1348 (by decide +kernel) rfl rfl ?_
                                                                    refine zIconst 5 5 1349 (by decide +kernel) rfl (by decide) ?_
                                                                    refine zIadd 1350 (by decide +kernel) rfl ?_
                                                                    obtain ⟨w479, F⟩ := F
                                                                    refine zSaload 1351 (by decide +kernel) rfl (w479) ?_
                                                                    refine zCallV 12 zcls12 mX12_game 160 5 0 0 _ _ 1354 [.int (G.2.2.2.2.2.2.2 (l4 + 1 : Int32).toNatClampNeg), .int (G.2.2.2.2.2.2.2 (l4 + 2 : Int32).toNatClampNeg), .int (G.2.2.2.2.2.2.2 (l4 + 3 : Int32).toNatClampNeg), .int (G.2.2.2.2.2.2.2 (l4 + 4 : Int32).toNatClampNeg), .int (G.2.2.2.2.2.2.2 (l4 + 5 : Int32).toNatClampNeg)] [.int (x473)] okX12_game mlL_160 imX12_game seX12_game (by decide +kernel) rfl rfl (Nat.le_of_ble_eq_true rfl) rfl rfl (Mod_0 S1_) (zC.mono F ?_)
                                                                    rintro _ _ ⟨x480, I481, J482, R483, rfl, rfl, F⟩
                                                                    change zV G (d + 1) mL_law (kc + 4) (ks + 300) 1354 [(0, .ref (G.2.2.2.2.2.1 3)), (1, .ref (x)), (2, .ref (m)), (3, .ref (o)), (4, .int (l4))] [.int (x480), .int (x473)] (I481, J482, R483, K, n) Q
                                                                    obtain ⟨u484, u485, u486, S487, F⟩ := F
                                                                    obtain ⟨u488, u489, S490, F⟩ := F
                                                                    obtain ⟨S491, F⟩ := F
                                                                    refine zIcmp_eq 229 1583 1357 (by decide +kernel) rfl rfl ⟨fun q492 => ?_, fun q492 => ?_⟩
                                                                    · replace F := F.1 q492
                                                                      refine zIinc 4 6 4 (l4 + 6) [(4, .int (l4 + 6)), (0, .ref (G.2.2.2.2.2.1 3)), (1, .ref (x)), (2, .ref (m)), (3, .ref (o))] 1586 (by decide +kernel) rfl rfl (by rfl) (by decide) rfl ?_
                                                                      refine zGoto (-1563) 23 (by decide +kernel) rfl ?_
                                                                      exact zLoc [1, 2, 3, 4, 0] _ rfl F
                                                                    · replace F := F.2 q492
                                                                      refine zIconst 0 0 1358 (by decide +kernel) rfl (by decide) ?_
                                                                      exact zZret .boolean rfl (zNarZ (Or.inl rfl)) (by decide +kernel) F
                                                                  · skip
                                                                    by_cases q493 : ((G.2.2.2.2.2.2.2 l4.toNatClampNeg) &&& 63) = 32
                                                                    · replace F := F.2.2.2.2.2.2.2.2.2.2.2.2.2.2.2.2.2.2.2.2.2.2.2.2.2.2.2.2.2.2.2.2.1 q493
                                                                      have zt := zEqT q493 (show (32 : Int32).toInt = 32 by decide)
                                                                      refine zTableIn 1543 0 39 #[176, 249, 274, 299, 324, 392, 429, 454, 479, 504, 541, 566, 615, 640, 665, 678, 747, 760, 797, 846, 883, 908, 945, 970, 1007, 1032, 1097, 1134, 1159, 1172, 1209, 1246, 1319, 1368, 1405, 1442, 1467, 1492, 1505, 1518] 176 1319 1359 (by decide +kernel) (by omega) (by omega) (by rw [zt]; decide) rfl ?_
                                                                      refine zAload_n 1 1 1360 (by decide +kernel) rfl rfl ?_
                                                                      refine zAload_n 0 0 1361 (by decide +kernel) rfl rfl ?_
                                                                      refine zIload 4 4 1363 (by decide +kernel) rfl rfl ?_
                                                                      refine zIconst 1 1 1364 (by decide +kernel) rfl (by decide) ?_
                                                                      refine zIadd 1365 (by decide +kernel) rfl ?_
                                                                      obtain ⟨w494, F⟩ := F
                                                                      refine zSaload 1366 (by decide +kernel) rfl (w494) ?_
                                                                      refine zAload_n 0 0 1367 (by decide +kernel) rfl rfl ?_
                                                                      refine zIload 4 4 1369 (by decide +kernel) rfl rfl ?_
                                                                      refine zIconst 2 2 1370 (by decide +kernel) rfl (by decide) ?_
                                                                      refine zIadd 1371 (by decide +kernel) rfl ?_
                                                                      obtain ⟨w495, F⟩ := F
                                                                      refine zSaload 1372 (by decide +kernel) rfl (w495) ?_
                                                                      refine zAload_n 0 0 1373 (by decide +kernel) rfl rfl ?_
                                                                      refine zIload 4 4 1375 (by decide +kernel) rfl rfl ?_
                                                                      refine zIconst 3 3 1376 (by decide +kernel) rfl (by decide) ?_
                                                                      refine zIadd 1377 (by decide +kernel) rfl ?_
                                                                      obtain ⟨w496, F⟩ := F
                                                                      refine zSaload 1378 (by decide +kernel) rfl (w496) ?_
                                                                      refine zCallV 11 zcls11 mX11_rests 161 3 0 0 _ _ 1381 [.int (G.2.2.2.2.2.2.2 (l4 + 1 : Int32).toNatClampNeg), .int (G.2.2.2.2.2.2.2 (l4 + 2 : Int32).toNatClampNeg), .int (G.2.2.2.2.2.2.2 (l4 + 3 : Int32).toNatClampNeg)] [] okX11_rests mlL_161 imX11_rests seX11_rests (by decide +kernel) rfl rfl (Nat.le_of_ble_eq_true rfl) rfl rfl (X_0 S0_) (zC.mono F ?_)
                                                                      rintro _ _ ⟨x497, I498, rfl, rfl, F⟩
                                                                      change zV G (d + 1) mL_law (kc + 4) (ks + 300) 1381 [(0, .ref (G.2.2.2.2.2.1 3)), (1, .ref (x)), (2, .ref (m)), (3, .ref (o)), (4, .int (l4))] [.int (x497)] (I498, J, R, K, n) Q
                                                                      refine zAload_n 2 2 1382 (by decide +kernel) rfl rfl ?_
                                                                      refine zAload_n 0 0 1383 (by decide +kernel) rfl rfl ?_
                                                                      refine zIload 4 4 1385 (by decide +kernel) rfl rfl ?_
                                                                      refine zIconst 1 1 1386 (by decide +kernel) rfl (by decide) ?_
                                                                      refine zIadd 1387 (by decide +kernel) rfl ?_
                                                                      obtain ⟨w499, F⟩ := F
                                                                      refine zSaload 1388 (by decide +kernel) rfl (w499) ?_
                                                                      refine zAload_n 0 0 1389 (by decide +kernel) rfl rfl ?_
                                                                      refine zIload 4 4 1391 (by decide +kernel) rfl rfl ?_
                                                                      refine zIconst 2 2 1392 (by decide +kernel) rfl (by decide) ?_
                                                                      refine zIadd 1393 (by decide +kernel) rfl ?_
                                                                      obtain ⟨w500, F⟩ := F
                                                                      refine zSaload 1394 (by decide +kernel) rfl (w500) ?_
                                                                      refine zAload_n 0 0 1395 (by decide +kernel) rfl rfl ?_
                                                                      refine zIload 4 4 1397 (by decide +kernel) rfl rfl ?_
                                                                      refine zIconst 3 3 1398 (by decide +kernel) rfl (by decide) ?_
                                                                      refine zIadd 1399 (by decide +kernel) rfl ?_
                                                                      obtain ⟨w501, F⟩ := F
                                                                      refine zSaload 1400 (by decide +kernel) rfl (w501) ?_
                                                                      refine zCallV 12 zcls12 mX12_rests 164 3 0 0 _ _ 1403 [.int (G.2.2.2.2.2.2.2 (l4 + 1 : Int32).toNatClampNeg), .int (G.2.2.2.2.2.2.2 (l4 + 2 : Int32).toNatClampNeg), .int (G.2.2.2.2.2.2.2 (l4 + 3 : Int32).toNatClampNeg)] [.int (x497)] okX12_rests mlL_164 imX12_rests seX12_rests (by decide +kernel) rfl rfl (Nat.le_of_ble_eq_true rfl) rfl rfl (Mod_0 S1_) (zC.mono F ?_)
                                                                      rintro _ _ ⟨x502, I503, J504, R505, rfl, rfl, F⟩
                                                                      change zV G (d + 1) mL_law (kc + 4) (ks + 300) 1403 [(0, .ref (G.2.2.2.2.2.1 3)), (1, .ref (x)), (2, .ref (m)), (3, .ref (o)), (4, .int (l4))] [.int (x502), .int (x497)] (I503, J504, R505, K, n) Q
                                                                      obtain ⟨u506, u507, u508, S509, F⟩ := F
                                                                      obtain ⟨u510, u511, S512, F⟩ := F
                                                                      obtain ⟨S513, F⟩ := F
                                                                      refine zIcmp_eq 180 1583 1406 (by decide +kernel) rfl rfl ⟨fun q514 => ?_, fun q514 => ?_⟩
                                                                      · replace F := F.1 q514
                                                                        refine zIinc 4 6 4 (l4 + 6) [(4, .int (l4 + 6)), (0, .ref (G.2.2.2.2.2.1 3)), (1, .ref (x)), (2, .ref (m)), (3, .ref (o))] 1586 (by decide +kernel) rfl rfl (by rfl) (by decide) rfl ?_
                                                                        refine zGoto (-1563) 23 (by decide +kernel) rfl ?_
                                                                        exact zLoc [1, 2, 3, 4, 0] _ rfl F
                                                                      · replace F := F.2 q514
                                                                        refine zIconst 0 0 1407 (by decide +kernel) rfl (by decide) ?_
                                                                        exact zZret .boolean rfl (zNarZ (Or.inl rfl)) (by decide +kernel) F
                                                                    · skip
                                                                      by_cases q515 : ((G.2.2.2.2.2.2.2 l4.toNatClampNeg) &&& 63) = 33
                                                                      · replace F := F.2.2.2.2.2.2.2.2.2.2.2.2.2.2.2.2.2.2.2.2.2.2.2.2.2.2.2.2.2.2.2.2.2.1 q515
                                                                        have zt := zEqT q515 (show (33 : Int32).toInt = 33 by decide)
                                                                        refine zTableIn 1543 0 39 #[176, 249, 274, 299, 324, 392, 429, 454, 479, 504, 541, 566, 615, 640, 665, 678, 747, 760, 797, 846, 883, 908, 945, 970, 1007, 1032, 1097, 1134, 1159, 1172, 1209, 1246, 1319, 1368, 1405, 1442, 1467, 1492, 1505, 1518] 176 1368 1408 (by decide +kernel) (by omega) (by omega) (by rw [zt]; decide) rfl ?_
                                                                        refine zAload_n 1 1 1409 (by decide +kernel) rfl rfl ?_
                                                                        refine zAload_n 0 0 1410 (by decide +kernel) rfl rfl ?_
                                                                        refine zIload 4 4 1412 (by decide +kernel) rfl rfl ?_
                                                                        refine zIconst 1 1 1413 (by decide +kernel) rfl (by decide) ?_
                                                                        refine zIadd 1414 (by decide +kernel) rfl ?_
                                                                        obtain ⟨w516, F⟩ := F
                                                                        refine zSaload 1415 (by decide +kernel) rfl (w516) ?_
                                                                        refine zAload_n 0 0 1416 (by decide +kernel) rfl rfl ?_
                                                                        refine zIload 4 4 1418 (by decide +kernel) rfl rfl ?_
                                                                        refine zIconst 2 2 1419 (by decide +kernel) rfl (by decide) ?_
                                                                        refine zIadd 1420 (by decide +kernel) rfl ?_
                                                                        obtain ⟨w517, F⟩ := F
                                                                        refine zSaload 1421 (by decide +kernel) rfl (w517) ?_
                                                                        refine zCallV 11 zcls11 mX11_odds 165 2 0 0 _ _ 1424 [.int (G.2.2.2.2.2.2.2 (l4 + 1 : Int32).toNatClampNeg), .int (G.2.2.2.2.2.2.2 (l4 + 2 : Int32).toNatClampNeg)] [] okX11_odds mlL_165 imX11_odds seX11_odds (by decide +kernel) rfl rfl (Nat.le_of_ble_eq_true rfl) rfl rfl (X_0 S0_) (zC.mono F ?_)
                                                                        rintro _ _ ⟨x518, I519, rfl, rfl, F⟩
                                                                        change zV G (d + 1) mL_law (kc + 4) (ks + 300) 1424 [(0, .ref (G.2.2.2.2.2.1 3)), (1, .ref (x)), (2, .ref (m)), (3, .ref (o)), (4, .int (l4))] [.int (x518)] (I519, J, R, K, n) Q
                                                                        refine zAload_n 2 2 1425 (by decide +kernel) rfl rfl ?_
                                                                        refine zAload_n 0 0 1426 (by decide +kernel) rfl rfl ?_
                                                                        refine zIload 4 4 1428 (by decide +kernel) rfl rfl ?_
                                                                        refine zIconst 1 1 1429 (by decide +kernel) rfl (by decide) ?_
                                                                        refine zIadd 1430 (by decide +kernel) rfl ?_
                                                                        obtain ⟨w520, F⟩ := F
                                                                        refine zSaload 1431 (by decide +kernel) rfl (w520) ?_
                                                                        refine zAload_n 0 0 1432 (by decide +kernel) rfl rfl ?_
                                                                        refine zIload 4 4 1434 (by decide +kernel) rfl rfl ?_
                                                                        refine zIconst 2 2 1435 (by decide +kernel) rfl (by decide) ?_
                                                                        refine zIadd 1436 (by decide +kernel) rfl ?_
                                                                        obtain ⟨w521, F⟩ := F
                                                                        refine zSaload 1437 (by decide +kernel) rfl (w521) ?_
                                                                        refine zCallV 12 zcls12 mX12_odds 168 2 0 0 _ _ 1440 [.int (G.2.2.2.2.2.2.2 (l4 + 1 : Int32).toNatClampNeg), .int (G.2.2.2.2.2.2.2 (l4 + 2 : Int32).toNatClampNeg)] [.int (x518)] okX12_odds mlL_168 imX12_odds seX12_odds (by decide +kernel) rfl rfl (Nat.le_of_ble_eq_true rfl) rfl rfl (Mod_0 S1_) (zC.mono F ?_)
                                                                        rintro _ _ ⟨x522, I523, J524, R525, rfl, rfl, F⟩
                                                                        change zV G (d + 1) mL_law (kc + 4) (ks + 300) 1440 [(0, .ref (G.2.2.2.2.2.1 3)), (1, .ref (x)), (2, .ref (m)), (3, .ref (o)), (4, .int (l4))] [.int (x522), .int (x518)] (I523, J524, R525, K, n) Q
                                                                        obtain ⟨u526, u527, u528, S529, F⟩ := F
                                                                        obtain ⟨u530, u531, S532, F⟩ := F
                                                                        obtain ⟨S533, F⟩ := F
                                                                        refine zIcmp_eq 143 1583 1443 (by decide +kernel) rfl rfl ⟨fun q534 => ?_, fun q534 => ?_⟩
                                                                        · replace F := F.1 q534
                                                                          refine zIinc 4 6 4 (l4 + 6) [(4, .int (l4 + 6)), (0, .ref (G.2.2.2.2.2.1 3)), (1, .ref (x)), (2, .ref (m)), (3, .ref (o))] 1586 (by decide +kernel) rfl rfl (by rfl) (by decide) rfl ?_
                                                                          refine zGoto (-1563) 23 (by decide +kernel) rfl ?_
                                                                          exact zLoc [1, 2, 3, 4, 0] _ rfl F
                                                                        · replace F := F.2 q534
                                                                          refine zIconst 0 0 1444 (by decide +kernel) rfl (by decide) ?_
                                                                          exact zZret .boolean rfl (zNarZ (Or.inl rfl)) (by decide +kernel) F
                                                                      · skip
                                                                        by_cases q535 : ((G.2.2.2.2.2.2.2 l4.toNatClampNeg) &&& 63) = 34
                                                                        · replace F := F.2.2.2.2.2.2.2.2.2.2.2.2.2.2.2.2.2.2.2.2.2.2.2.2.2.2.2.2.2.2.2.2.2.2.1 q535
                                                                          have zt := zEqT q535 (show (34 : Int32).toInt = 34 by decide)
                                                                          refine zTableIn 1543 0 39 #[176, 249, 274, 299, 324, 392, 429, 454, 479, 504, 541, 566, 615, 640, 665, 678, 747, 760, 797, 846, 883, 908, 945, 970, 1007, 1032, 1097, 1134, 1159, 1172, 1209, 1246, 1319, 1368, 1405, 1442, 1467, 1492, 1505, 1518] 176 1405 1445 (by decide +kernel) (by omega) (by omega) (by rw [zt]; decide) rfl ?_
                                                                          refine zAload_n 1 1 1446 (by decide +kernel) rfl rfl ?_
                                                                          refine zAload_n 0 0 1447 (by decide +kernel) rfl rfl ?_
                                                                          refine zIload 4 4 1449 (by decide +kernel) rfl rfl ?_
                                                                          refine zIconst 1 1 1450 (by decide +kernel) rfl (by decide) ?_
                                                                          refine zIadd 1451 (by decide +kernel) rfl ?_
                                                                          obtain ⟨w536, F⟩ := F
                                                                          refine zSaload 1452 (by decide +kernel) rfl (w536) ?_
                                                                          refine zAload_n 0 0 1453 (by decide +kernel) rfl rfl ?_
                                                                          refine zIload 4 4 1455 (by decide +kernel) rfl rfl ?_
                                                                          refine zIconst 2 2 1456 (by decide +kernel) rfl (by decide) ?_
                                                                          refine zIadd 1457 (by decide +kernel) rfl ?_
                                                                          obtain ⟨w537, F⟩ := F
                                                                          refine zSaload 1458 (by decide +kernel) rfl (w537) ?_
                                                                          refine zCallV 11 zcls11 mX11_shares 169 2 0 0 _ _ 1461 [.int (G.2.2.2.2.2.2.2 (l4 + 1 : Int32).toNatClampNeg), .int (G.2.2.2.2.2.2.2 (l4 + 2 : Int32).toNatClampNeg)] [] okX11_shares mlL_169 imX11_shares seX11_shares (by decide +kernel) rfl rfl (Nat.le_of_ble_eq_true rfl) rfl rfl (X_0 S0_) (zC.mono F ?_)
                                                                          rintro _ _ ⟨x538, I539, rfl, rfl, F⟩
                                                                          change zV G (d + 1) mL_law (kc + 4) (ks + 300) 1461 [(0, .ref (G.2.2.2.2.2.1 3)), (1, .ref (x)), (2, .ref (m)), (3, .ref (o)), (4, .int (l4))] [.int (x538)] (I539, J, R, K, n) Q
                                                                          refine zAload_n 2 2 1462 (by decide +kernel) rfl rfl ?_
                                                                          refine zAload_n 0 0 1463 (by decide +kernel) rfl rfl ?_
                                                                          refine zIload 4 4 1465 (by decide +kernel) rfl rfl ?_
                                                                          refine zIconst 1 1 1466 (by decide +kernel) rfl (by decide) ?_
                                                                          refine zIadd 1467 (by decide +kernel) rfl ?_
                                                                          obtain ⟨w540, F⟩ := F
                                                                          refine zSaload 1468 (by decide +kernel) rfl (w540) ?_
                                                                          refine zAload_n 0 0 1469 (by decide +kernel) rfl rfl ?_
                                                                          refine zIload 4 4 1471 (by decide +kernel) rfl rfl ?_
                                                                          refine zIconst 2 2 1472 (by decide +kernel) rfl (by decide) ?_
                                                                          refine zIadd 1473 (by decide +kernel) rfl ?_
                                                                          obtain ⟨w541, F⟩ := F
                                                                          refine zSaload 1474 (by decide +kernel) rfl (w541) ?_
                                                                          refine zCallV 12 zcls12 mX12_shares 172 2 0 0 _ _ 1477 [.int (G.2.2.2.2.2.2.2 (l4 + 1 : Int32).toNatClampNeg), .int (G.2.2.2.2.2.2.2 (l4 + 2 : Int32).toNatClampNeg)] [.int (x538)] okX12_shares mlL_172 imX12_shares seX12_shares (by decide +kernel) rfl rfl (Nat.le_of_ble_eq_true rfl) rfl rfl (Mod_0 S1_) (zC.mono F ?_)
                                                                          rintro _ _ ⟨x542, I543, rfl, rfl, F⟩
                                                                          change zV G (d + 1) mL_law (kc + 4) (ks + 300) 1477 [(0, .ref (G.2.2.2.2.2.1 3)), (1, .ref (x)), (2, .ref (m)), (3, .ref (o)), (4, .int (l4))] [.int (x542), .int (x538)] (I543, J, R, K, n) Q
                                                                          refine zIcmp_eq 106 1583 1480 (by decide +kernel) rfl rfl ⟨fun q544 => ?_, fun q544 => ?_⟩
                                                                          · replace F := F.1 q544
                                                                            refine zIinc 4 6 4 (l4 + 6) [(4, .int (l4 + 6)), (0, .ref (G.2.2.2.2.2.1 3)), (1, .ref (x)), (2, .ref (m)), (3, .ref (o))] 1586 (by decide +kernel) rfl rfl (by rfl) (by decide) rfl ?_
                                                                            refine zGoto (-1563) 23 (by decide +kernel) rfl ?_
                                                                            exact zLoc [1, 2, 3, 4, 0] _ rfl F
                                                                          · replace F := F.2 q544
                                                                            refine zIconst 0 0 1481 (by decide +kernel) rfl (by decide) ?_
                                                                            exact zZret .boolean rfl (zNarZ (Or.inl rfl)) (by decide +kernel) F
                                                                        · skip
                                                                          by_cases q545 : ((G.2.2.2.2.2.2.2 l4.toNatClampNeg) &&& 63) = 35
                                                                          · replace F := F.2.2.2.2.2.2.2.2.2.2.2.2.2.2.2.2.2.2.2.2.2.2.2.2.2.2.2.2.2.2.2.2.2.2.2.1 q545
                                                                            have zt := zEqT q545 (show (35 : Int32).toInt = 35 by decide)
                                                                            refine zTableIn 1543 0 39 #[176, 249, 274, 299, 324, 392, 429, 454, 479, 504, 541, 566, 615, 640, 665, 678, 747, 760, 797, 846, 883, 908, 945, 970, 1007, 1032, 1097, 1134, 1159, 1172, 1209, 1246, 1319, 1368, 1405, 1442, 1467, 1492, 1505, 1518] 176 1442 1482 (by decide +kernel) (by omega) (by omega) (by rw [zt]; decide) rfl ?_
                                                                            refine zAload_n 1 1 1483 (by decide +kernel) rfl rfl ?_
                                                                            refine zAload_n 0 0 1484 (by decide +kernel) rfl rfl ?_
                                                                            refine zIload 4 4 1486 (by decide +kernel) rfl rfl ?_
                                                                            refine zIconst 1 1 1487 (by decide +kernel) rfl (by decide) ?_
                                                                            refine zIadd 1488 (by decide +kernel) rfl ?_
                                                                            obtain ⟨w546, F⟩ := F
                                                                            refine zSaload 1489 (by decide +kernel) rfl (w546) ?_
                                                                            refine zCallV 11 zcls11 mX11_fades 173 1 0 0 _ _ 1492 [.int (G.2.2.2.2.2.2.2 (l4 + 1 : Int32).toNatClampNeg)] [] okX11_fades mlL_173 imX11_fades seX11_fades (by decide +kernel) rfl rfl (Nat.le_of_ble_eq_true rfl) rfl rfl (X_0 S0_) (zC.mono F ?_)
                                                                            rintro _ _ ⟨x547, I548, rfl, rfl, F⟩
                                                                            change zV G (d + 1) mL_law (kc + 4) (ks + 300) 1492 [(0, .ref (G.2.2.2.2.2.1 3)), (1, .ref (x)), (2, .ref (m)), (3, .ref (o)), (4, .int (l4))] [.int (x547)] (I548, J, R, K, n) Q
                                                                            refine zAload_n 2 2 1493 (by decide +kernel) rfl rfl ?_
                                                                            refine zAload_n 0 0 1494 (by decide +kernel) rfl rfl ?_
                                                                            refine zIload 4 4 1496 (by decide +kernel) rfl rfl ?_
                                                                            refine zIconst 1 1 1497 (by decide +kernel) rfl (by decide) ?_
                                                                            refine zIadd 1498 (by decide +kernel) rfl ?_
                                                                            obtain ⟨w549, F⟩ := F
                                                                            refine zSaload 1499 (by decide +kernel) rfl (w549) ?_
                                                                            refine zCallV 12 zcls12 mX12_fades 176 1 0 0 _ _ 1502 [.int (G.2.2.2.2.2.2.2 (l4 + 1 : Int32).toNatClampNeg)] [.int (x547)] okX12_fades mlL_176 imX12_fades seX12_fades (by decide +kernel) rfl rfl (Nat.le_of_ble_eq_true rfl) rfl rfl (Mod_0 S1_) (zC.mono F ?_)
                                                                            rintro _ _ ⟨x550, I551, rfl, rfl, F⟩
                                                                            change zV G (d + 1) mL_law (kc + 4) (ks + 300) 1502 [(0, .ref (G.2.2.2.2.2.1 3)), (1, .ref (x)), (2, .ref (m)), (3, .ref (o)), (4, .int (l4))] [.int (x550), .int (x547)] (I551, J, R, K, n) Q
                                                                            refine zIcmp_eq 81 1583 1505 (by decide +kernel) rfl rfl ⟨fun q552 => ?_, fun q552 => ?_⟩
                                                                            · replace F := F.1 q552
                                                                              refine zIinc 4 6 4 (l4 + 6) [(4, .int (l4 + 6)), (0, .ref (G.2.2.2.2.2.1 3)), (1, .ref (x)), (2, .ref (m)), (3, .ref (o))] 1586 (by decide +kernel) rfl rfl (by rfl) (by decide) rfl ?_
                                                                              refine zGoto (-1563) 23 (by decide +kernel) rfl ?_
                                                                              exact zLoc [1, 2, 3, 4, 0] _ rfl F
                                                                            · replace F := F.2 q552
                                                                              refine zIconst 0 0 1506 (by decide +kernel) rfl (by decide) ?_
                                                                              exact zZret .boolean rfl (zNarZ (Or.inl rfl)) (by decide +kernel) F
                                                                          · skip
                                                                            by_cases q553 : ((G.2.2.2.2.2.2.2 l4.toNatClampNeg) &&& 63) = 36
                                                                            · replace F := F.2.2.2.2.2.2.2.2.2.2.2.2.2.2.2.2.2.2.2.2.2.2.2.2.2.2.2.2.2.2.2.2.2.2.2.2.1 q553
                                                                              have zt := zEqT q553 (show (36 : Int32).toInt = 36 by decide)
                                                                              refine zTableIn 1543 0 39 #[176, 249, 274, 299, 324, 392, 429, 454, 479, 504, 541, 566, 615, 640, 665, 678, 747, 760, 797, 846, 883, 908, 945, 970, 1007, 1032, 1097, 1134, 1159, 1172, 1209, 1246, 1319, 1368, 1405, 1442, 1467, 1492, 1505, 1518] 176 1467 1507 (by decide +kernel) (by omega) (by omega) (by rw [zt]; decide) rfl ?_
                                                                              refine zAload_n 1 1 1508 (by decide +kernel) rfl rfl ?_
                                                                              refine zAload_n 0 0 1509 (by decide +kernel) rfl rfl ?_
                                                                              refine zIload 4 4 1511 (by decide +kernel) rfl rfl ?_
                                                                              refine zIconst 1 1 1512 (by decide +kernel) rfl (by decide) ?_
                                                                              refine zIadd 1513 (by decide +kernel) rfl ?_
                                                                              obtain ⟨w554, F⟩ := F
                                                                              refine zSaload 1514 (by decide +kernel) rfl (w554) ?_
                                                                              refine zCallV 11 zcls11 mX11_all 177 1 0 0 _ _ 1517 [.int (G.2.2.2.2.2.2.2 (l4 + 1 : Int32).toNatClampNeg)] [] okX11_all mlL_177 imX11_all seX11_all (by decide +kernel) rfl rfl (Nat.le_of_ble_eq_true rfl) rfl rfl (X_0 S0_) (zC.mono F ?_)
                                                                              rintro _ _ ⟨x555, I556, rfl, rfl, F⟩
                                                                              change zV G (d + 1) mL_law (kc + 4) (ks + 300) 1517 [(0, .ref (G.2.2.2.2.2.1 3)), (1, .ref (x)), (2, .ref (m)), (3, .ref (o)), (4, .int (l4))] [.int (x555)] (I556, J, R, K, n) Q
                                                                              refine zAload_n 2 2 1518 (by decide +kernel) rfl rfl ?_
                                                                              refine zAload_n 0 0 1519 (by decide +kernel) rfl rfl ?_
                                                                              refine zIload 4 4 1521 (by decide +kernel) rfl rfl ?_
                                                                              refine zIconst 1 1 1522 (by decide +kernel) rfl (by decide) ?_
                                                                              refine zIadd 1523 (by decide +kernel) rfl ?_
                                                                              obtain ⟨w557, F⟩ := F
                                                                              refine zSaload 1524 (by decide +kernel) rfl (w557) ?_
                                                                              refine zCallV 12 zcls12 mX12_all 180 1 0 0 _ _ 1527 [.int (G.2.2.2.2.2.2.2 (l4 + 1 : Int32).toNatClampNeg)] [.int (x555)] okX12_all mlL_180 imX12_all seX12_all (by decide +kernel) rfl rfl (Nat.le_of_ble_eq_true rfl) rfl rfl (Mod_0 S1_) (zC.mono F ?_)
                                                                              rintro _ _ ⟨x558, I559, rfl, rfl, F⟩
                                                                              change zV G (d + 1) mL_law (kc + 4) (ks + 300) 1527 [(0, .ref (G.2.2.2.2.2.1 3)), (1, .ref (x)), (2, .ref (m)), (3, .ref (o)), (4, .int (l4))] [.int (x558), .int (x555)] (I559, J, R, K, n) Q
                                                                              refine zIcmp_eq 56 1583 1530 (by decide +kernel) rfl rfl ⟨fun q560 => ?_, fun q560 => ?_⟩
                                                                              · replace F := F.1 q560
                                                                                refine zIinc 4 6 4 (l4 + 6) [(4, .int (l4 + 6)), (0, .ref (G.2.2.2.2.2.1 3)), (1, .ref (x)), (2, .ref (m)), (3, .ref (o))] 1586 (by decide +kernel) rfl rfl (by rfl) (by decide) rfl ?_
                                                                                refine zGoto (-1563) 23 (by decide +kernel) rfl ?_
                                                                                exact zLoc [1, 2, 3, 4, 0] _ rfl F
                                                                              · replace F := F.2 q560
                                                                                refine zIconst 0 0 1531 (by decide +kernel) rfl (by decide) ?_
                                                                                exact zZret .boolean rfl (zNarZ (Or.inl rfl)) (by decide +kernel) F
                                                                            · skip
                                                                              by_cases q561 : ((G.2.2.2.2.2.2.2 l4.toNatClampNeg) &&& 63) = 37
                                                                              · replace F := F.2.2.2.2.2.2.2.2.2.2.2.2.2.2.2.2.2.2.2.2.2.2.2.2.2.2.2.2.2.2.2.2.2.2.2.2.2.1 q561
                                                                                have zt := zEqT q561 (show (37 : Int32).toInt = 37 by decide)
                                                                                refine zTableIn 1543 0 39 #[176, 249, 274, 299, 324, 392, 429, 454, 479, 504, 541, 566, 615, 640, 665, 678, 747, 760, 797, 846, 883, 908, 945, 970, 1007, 1032, 1097, 1134, 1159, 1172, 1209, 1246, 1319, 1368, 1405, 1442, 1467, 1492, 1505, 1518] 176 1492 1532 (by decide +kernel) (by omega) (by omega) (by rw [zt]; decide) rfl ?_
                                                                                refine zAload_n 1 1 1533 (by decide +kernel) rfl rfl ?_
                                                                                refine zCallV 11 zcls11 mX11_image 181 0 0 0 _ _ 1536 [] [] okX11_image mlL_181 imX11_image seX11_image (by decide +kernel) rfl rfl (Nat.le_of_ble_eq_true rfl) rfl rfl (X_0 S0_) (zC.mono F ?_)
                                                                                rintro _ _ ⟨x562, I563, rfl, rfl, F⟩
                                                                                change zV G (d + 1) mL_law (kc + 4) (ks + 300) 1536 [(0, .ref (G.2.2.2.2.2.1 3)), (1, .ref (x)), (2, .ref (m)), (3, .ref (o)), (4, .int (l4))] [.int (x562)] (I563, J, R, K, n) Q
                                                                                refine zAload_n 2 2 1537 (by decide +kernel) rfl rfl ?_
                                                                                refine zCallV 12 zcls12 mX12_image 184 0 0 0 _ _ 1540 [] [.int (x562)] okX12_image mlL_184 imX12_image seX12_image (by decide +kernel) rfl rfl (Nat.le_of_ble_eq_true rfl) rfl rfl (Mod_0 S1_) (zC.mono F ?_)
                                                                                rintro _ _ ⟨x564, I565, rfl, rfl, F⟩
                                                                                change zV G (d + 1) mL_law (kc + 4) (ks + 300) 1540 [(0, .ref (G.2.2.2.2.2.1 3)), (1, .ref (x)), (2, .ref (m)), (3, .ref (o)), (4, .int (l4))] [.int (x564), .int (x562)] (I565, J, R, K, n) Q
                                                                                refine zIcmp_eq 43 1583 1543 (by decide +kernel) rfl rfl ⟨fun q566 => ?_, fun q566 => ?_⟩
                                                                                · replace F := F.1 q566
                                                                                  refine zIinc 4 6 4 (l4 + 6) [(4, .int (l4 + 6)), (0, .ref (G.2.2.2.2.2.1 3)), (1, .ref (x)), (2, .ref (m)), (3, .ref (o))] 1586 (by decide +kernel) rfl rfl (by rfl) (by decide) rfl ?_
                                                                                  refine zGoto (-1563) 23 (by decide +kernel) rfl ?_
                                                                                  exact zLoc [1, 2, 3, 4, 0] _ rfl F
                                                                                · replace F := F.2 q566
                                                                                  refine zIconst 0 0 1544 (by decide +kernel) rfl (by decide) ?_
                                                                                  exact zZret .boolean rfl (zNarZ (Or.inl rfl)) (by decide +kernel) F
                                                                              · skip
                                                                                by_cases q567 : ((G.2.2.2.2.2.2.2 l4.toNatClampNeg) &&& 63) = 38
                                                                                · replace F := F.2.2.2.2.2.2.2.2.2.2.2.2.2.2.2.2.2.2.2.2.2.2.2.2.2.2.2.2.2.2.2.2.2.2.2.2.2.2.1 q567
                                                                                  have zt := zEqT q567 (show (38 : Int32).toInt = 38 by decide)
                                                                                  refine zTableIn 1543 0 39 #[176, 249, 274, 299, 324, 392, 429, 454, 479, 504, 541, 566, 615, 640, 665, 678, 747, 760, 797, 846, 883, 908, 945, 970, 1007, 1032, 1097, 1134, 1159, 1172, 1209, 1246, 1319, 1368, 1405, 1442, 1467, 1492, 1505, 1518] 176 1505 1545 (by decide +kernel) (by omega) (by omega) (by rw [zt]; decide) rfl ?_
                                                                                  refine zAload_n 1 1 1546 (by decide +kernel) rfl rfl ?_
                                                                                  refine zCallV 11 zcls11 mX11_back 185 0 0 0 _ _ 1549 [] [] okX11_back mlL_185 imX11_back seX11_back (by decide +kernel) rfl rfl (Nat.le_of_ble_eq_true rfl) rfl rfl (X_0 S0_) (zC.mono F ?_)
                                                                                  rintro _ _ ⟨x568, I569, rfl, rfl, F⟩
                                                                                  change zV G (d + 1) mL_law (kc + 4) (ks + 300) 1549 [(0, .ref (G.2.2.2.2.2.1 3)), (1, .ref (x)), (2, .ref (m)), (3, .ref (o)), (4, .int (l4))] [.int (x568)] (I569, J, R, K, n) Q
                                                                                  refine zAload_n 2 2 1550 (by decide +kernel) rfl rfl ?_
                                                                                  refine zCallV 12 zcls12 mX12_back 188 0 0 0 _ _ 1553 [] [.int (x568)] okX12_back mlL_188 imX12_back seX12_back (by decide +kernel) rfl rfl (Nat.le_of_ble_eq_true rfl) rfl rfl (Mod_0 S1_) (zC.mono F ?_)
                                                                                  rintro _ _ ⟨x570, I571, rfl, rfl, F⟩
                                                                                  change zV G (d + 1) mL_law (kc + 4) (ks + 300) 1553 [(0, .ref (G.2.2.2.2.2.1 3)), (1, .ref (x)), (2, .ref (m)), (3, .ref (o)), (4, .int (l4))] [.int (x570), .int (x568)] (I571, J, R, K, n) Q
                                                                                  refine zIcmp_eq 30 1583 1556 (by decide +kernel) rfl rfl ⟨fun q572 => ?_, fun q572 => ?_⟩
                                                                                  · replace F := F.1 q572
                                                                                    refine zIinc 4 6 4 (l4 + 6) [(4, .int (l4 + 6)), (0, .ref (G.2.2.2.2.2.1 3)), (1, .ref (x)), (2, .ref (m)), (3, .ref (o))] 1586 (by decide +kernel) rfl rfl (by rfl) (by decide) rfl ?_
                                                                                    refine zGoto (-1563) 23 (by decide +kernel) rfl ?_
                                                                                    exact zLoc [1, 2, 3, 4, 0] _ rfl F
                                                                                  · replace F := F.2 q572
                                                                                    refine zIconst 0 0 1557 (by decide +kernel) rfl (by decide) ?_
                                                                                    exact zZret .boolean rfl (zNarZ (Or.inl rfl)) (by decide +kernel) F
                                                                                · skip
                                                                                  by_cases q573 : ((G.2.2.2.2.2.2.2 l4.toNatClampNeg) &&& 63) = 39
                                                                                  · replace F := F.2.2.2.2.2.2.2.2.2.2.2.2.2.2.2.2.2.2.2.2.2.2.2.2.2.2.2.2.2.2.2.2.2.2.2.2.2.2.2.1 q573
                                                                                    have zt := zEqT q573 (show (39 : Int32).toInt = 39 by decide)
                                                                                    refine zTableIn 1543 0 39 #[176, 249, 274, 299, 324, 392, 429, 454, 479, 504, 541, 566, 615, 640, 665, 678, 747, 760, 797, 846, 883, 908, 945, 970, 1007, 1032, 1097, 1134, 1159, 1172, 1209, 1246, 1319, 1368, 1405, 1442, 1467, 1492, 1505, 1518] 176 1518 1558 (by decide +kernel) (by omega) (by omega) (by rw [zt]; decide) rfl ?_
                                                                                    refine zAload_n 1 1 1559 (by decide +kernel) rfl rfl ?_
                                                                                    refine zAload_n 0 0 1560 (by decide +kernel) rfl rfl ?_
                                                                                    refine zIload 4 4 1562 (by decide +kernel) rfl rfl ?_
                                                                                    refine zIconst 1 1 1563 (by decide +kernel) rfl (by decide) ?_
                                                                                    refine zIadd 1564 (by decide +kernel) rfl ?_
                                                                                    obtain ⟨w574, F⟩ := F
                                                                                    refine zSaload 1565 (by decide +kernel) rfl (w574) ?_
                                                                                    refine zCallV 11 zcls11 mX11_count 189 1 0 0 _ _ 1568 [.int (G.2.2.2.2.2.2.2 (l4 + 1 : Int32).toNatClampNeg)] [] okX11_count mlL_189 imX11_count seX11_count (by decide +kernel) rfl rfl (Nat.le_of_ble_eq_true rfl) rfl rfl (X_0 S0_) (zC.mono F ?_)
                                                                                    rintro _ _ ⟨x575, I576, rfl, rfl, F⟩
                                                                                    change zV G (d + 1) mL_law (kc + 4) (ks + 300) 1568 [(0, .ref (G.2.2.2.2.2.1 3)), (1, .ref (x)), (2, .ref (m)), (3, .ref (o)), (4, .int (l4))] [.int (x575)] (I576, J, R, K, n) Q
                                                                                    refine zAload_n 2 2 1569 (by decide +kernel) rfl rfl ?_
                                                                                    refine zAload_n 0 0 1570 (by decide +kernel) rfl rfl ?_
                                                                                    refine zIload 4 4 1572 (by decide +kernel) rfl rfl ?_
                                                                                    refine zIconst 1 1 1573 (by decide +kernel) rfl (by decide) ?_
                                                                                    refine zIadd 1574 (by decide +kernel) rfl ?_
                                                                                    obtain ⟨w577, F⟩ := F
                                                                                    refine zSaload 1575 (by decide +kernel) rfl (w577) ?_
                                                                                    refine zCallV 12 zcls12 mX12_count 192 1 0 0 _ _ 1578 [.int (G.2.2.2.2.2.2.2 (l4 + 1 : Int32).toNatClampNeg)] [.int (x575)] okX12_count mlL_192 imX12_count seX12_count (by decide +kernel) rfl rfl (Nat.le_of_ble_eq_true rfl) rfl rfl (Mod_0 S1_) (zC.mono F ?_)
                                                                                    rintro _ _ ⟨x578, I579, rfl, rfl, F⟩
                                                                                    change zV G (d + 1) mL_law (kc + 4) (ks + 300) 1578 [(0, .ref (G.2.2.2.2.2.1 3)), (1, .ref (x)), (2, .ref (m)), (3, .ref (o)), (4, .int (l4))] [.int (x578), .int (x575)] (I579, J, R, K, n) Q
                                                                                    refine zIcmp_eq 5 1583 1581 (by decide +kernel) rfl rfl ⟨fun q580 => ?_, fun q580 => ?_⟩
                                                                                    · replace F := F.1 q580
                                                                                      refine zIinc 4 6 4 (l4 + 6) [(4, .int (l4 + 6)), (0, .ref (G.2.2.2.2.2.1 3)), (1, .ref (x)), (2, .ref (m)), (3, .ref (o))] 1586 (by decide +kernel) rfl rfl (by rfl) (by decide) rfl ?_
                                                                                      refine zGoto (-1563) 23 (by decide +kernel) rfl ?_
                                                                                      exact zLoc [1, 2, 3, 4, 0] _ rfl F
                                                                                    · replace F := F.2 q580
                                                                                      refine zIconst 0 0 1582 (by decide +kernel) rfl (by decide) ?_
                                                                                      exact zZret .boolean rfl (zNarZ (Or.inl rfl)) (by decide +kernel) F
                                                                                  · skip
                                                                                    replace F := F.2.2.2.2.2.2.2.2.2.2.2.2.2.2.2.2.2.2.2.2.2.2.2.2.2.2.2.2.2.2.2.2.2.2.2.2.2.2.2.2 q3 q19 q27 q54 q83 q109 q129 q146 q154 q172 q182 q190 q202 q210 q218 q224 q247 q253 q263 q275 q295 q313 q333 q351 q371 q389 q403 q423 q441 q447 q457 q467 q493 q515 q535 q545 q553 q561 q567 q573
                                                                                    have zq3 := zNeT q3 (show (0 : Int32).toInt = 0 by decide)
                                                                                    have zq19 := zNeT q19 (show (1 : Int32).toInt = 1 by decide)
                                                                                    have zq27 := zNeT q27 (show (2 : Int32).toInt = 2 by decide)
                                                                                    have zq54 := zNeT q54 (show (3 : Int32).toInt = 3 by decide)
                                                                                    have zq83 := zNeT q83 (show (4 : Int32).toInt = 4 by decide)
                                                                                    have zq109 := zNeT q109 (show (5 : Int32).toInt = 5 by decide)
                                                                                    have zq129 := zNeT q129 (show (6 : Int32).toInt = 6 by decide)
                                                                                    have zq146 := zNeT q146 (show (7 : Int32).toInt = 7 by decide)
                                                                                    have zq154 := zNeT q154 (show (8 : Int32).toInt = 8 by decide)
                                                                                    have zq172 := zNeT q172 (show (9 : Int32).toInt = 9 by decide)
                                                                                    have zq182 := zNeT q182 (show (10 : Int32).toInt = 10 by decide)
                                                                                    have zq190 := zNeT q190 (show (11 : Int32).toInt = 11 by decide)
                                                                                    have zq202 := zNeT q202 (show (12 : Int32).toInt = 12 by decide)
                                                                                    have zq210 := zNeT q210 (show (13 : Int32).toInt = 13 by decide)
                                                                                    have zq218 := zNeT q218 (show (14 : Int32).toInt = 14 by decide)
                                                                                    have zq224 := zNeT q224 (show (15 : Int32).toInt = 15 by decide)
                                                                                    have zq247 := zNeT q247 (show (16 : Int32).toInt = 16 by decide)
                                                                                    have zq253 := zNeT q253 (show (17 : Int32).toInt = 17 by decide)
                                                                                    have zq263 := zNeT q263 (show (18 : Int32).toInt = 18 by decide)
                                                                                    have zq275 := zNeT q275 (show (19 : Int32).toInt = 19 by decide)
                                                                                    have zq295 := zNeT q295 (show (20 : Int32).toInt = 20 by decide)
                                                                                    have zq313 := zNeT q313 (show (21 : Int32).toInt = 21 by decide)
                                                                                    have zq333 := zNeT q333 (show (22 : Int32).toInt = 22 by decide)
                                                                                    have zq351 := zNeT q351 (show (23 : Int32).toInt = 23 by decide)
                                                                                    have zq371 := zNeT q371 (show (24 : Int32).toInt = 24 by decide)
                                                                                    have zq389 := zNeT q389 (show (25 : Int32).toInt = 25 by decide)
                                                                                    have zq403 := zNeT q403 (show (26 : Int32).toInt = 26 by decide)
                                                                                    have zq423 := zNeT q423 (show (27 : Int32).toInt = 27 by decide)
                                                                                    have zq441 := zNeT q441 (show (28 : Int32).toInt = 28 by decide)
                                                                                    have zq447 := zNeT q447 (show (29 : Int32).toInt = 29 by decide)
                                                                                    have zq457 := zNeT q457 (show (30 : Int32).toInt = 30 by decide)
                                                                                    have zq467 := zNeT q467 (show (31 : Int32).toInt = 31 by decide)
                                                                                    have zq493 := zNeT q493 (show (32 : Int32).toInt = 32 by decide)
                                                                                    have zq515 := zNeT q515 (show (33 : Int32).toInt = 33 by decide)
                                                                                    have zq535 := zNeT q535 (show (34 : Int32).toInt = 34 by decide)
                                                                                    have zq545 := zNeT q545 (show (35 : Int32).toInt = 35 by decide)
                                                                                    have zq553 := zNeT q553 (show (36 : Int32).toInt = 36 by decide)
                                                                                    have zq561 := zNeT q561 (show (37 : Int32).toInt = 37 by decide)
                                                                                    have zq567 := zNeT q567 (show (38 : Int32).toInt = 38 by decide)
                                                                                    have zq573 := zNeT q573 (show (39 : Int32).toInt = 39 by decide)
                                                                                    refine zTableOut 1543 0 39 #[176, 249, 274, 299, 324, 392, 429, 454, 479, 504, 541, 566, 615, 640, 665, 678, 747, 760, 797, 846, 883, 908, 945, 970, 1007, 1032, 1097, 1134, 1159, 1172, 1209, 1246, 1319, 1368, 1405, 1442, 1467, 1492, 1505, 1518] 176 1583 (by decide +kernel) (by omega) rfl ?_
                                                                                    refine zIinc 4 6 4 (l4 + 6) [(4, .int (l4 + 6)), (0, .ref (G.2.2.2.2.2.1 3)), (1, .ref (x)), (2, .ref (m)), (3, .ref (o))] 1586 (by decide +kernel) rfl rfl (by rfl) (by decide) rfl ?_
                                                                                    refine zGoto (-1563) 23 (by decide +kernel) rfl ?_
                                                                                    exact zLoc [1, 2, 3, 4, 0] _ rfl F
