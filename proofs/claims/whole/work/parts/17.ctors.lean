theorem yNewI {G : zG} {d kc ks pc : Nat} {M : zM} {ls : List (Nat × Value)} {st : List Value} {I : Nat → Nat → Int32} {J : Nat → Nat → Int64} {R : Nat → Nat → Option Nat} {K : Nat → Nat × Nat} {n : Nat} {Q : Option Value → zH → Prop} {c : Int32} (N kc' ks' pc' : Nat) (hd : decode M.2.1 pc = .ok (.newarray .int, 2)) (hn : pc + 2 = pc') (h0 : ¬ c < 0) (hN : c.toNatClampNeg = N) (hb : N * componentBytes .int ≤ 536870912) (hkc : kc' + 1 = kc) (hks : ks' + N = ks) (F : zV G d M kc' ks' pc' ls (.ref n :: st) (zFr I n 0, zFr J n 0, zFr R n none, zKr K n (32, N), n + 1) Q) : zV G d M kc ks pc ls (.int c :: st) (I, J, R, K, n) Q := zNewI (h := (I, J, R, K, n)) N kc' ks' pc' hd hn ac_int h0 hN hb hkc hks F
theorem yNewB {G : zG} {d kc ks pc : Nat} {M : zM} {ls : List (Nat × Value)} {st : List Value} {I : Nat → Nat → Int32} {J : Nat → Nat → Int64} {R : Nat → Nat → Option Nat} {K : Nat → Nat × Nat} {n : Nat} {Q : Option Value → zH → Prop} {c : Int32} (N kc' ks' pc' : Nat) (hd : decode M.2.1 pc = .ok (.newarray .byte, 2)) (hn : pc + 2 = pc') (h0 : ¬ c < 0) (hN : c.toNatClampNeg = N) (hb : N * componentBytes .byte ≤ 536870912) (hkc : kc' + 1 = kc) (hks : ks' + N = ks) (F : zV G d M kc' ks' pc' ls (.ref n :: st) (zFr I n 0, zFr J n 0, zFr R n none, zKr K n (33, N), n + 1) Q) : zV G d M kc ks pc ls (.int c :: st) (I, J, R, K, n) Q := zNewB (h := (I, J, R, K, n)) N kc' ks' pc' hd hn ac_byte h0 hN hb hkc hks F
theorem yNewZ {G : zG} {d kc ks pc : Nat} {M : zM} {ls : List (Nat × Value)} {st : List Value} {I : Nat → Nat → Int32} {J : Nat → Nat → Int64} {R : Nat → Nat → Option Nat} {K : Nat → Nat × Nat} {n : Nat} {Q : Option Value → zH → Prop} {c : Int32} (N kc' ks' pc' : Nat) (hd : decode M.2.1 pc = .ok (.newarray .boolean, 2)) (hn : pc + 2 = pc') (h0 : ¬ c < 0) (hN : c.toNatClampNeg = N) (hb : N * componentBytes .boolean ≤ 536870912) (hkc : kc' + 1 = kc) (hks : ks' + N = ks) (F : zV G d M kc' ks' pc' ls (.ref n :: st) (zFr I n 0, zFr J n 0, zFr R n none, zKr K n (34, N), n + 1) Q) : zV G d M kc ks pc ls (.int c :: st) (I, J, R, K, n) Q := zNewZ (h := (I, J, R, K, n)) N kc' ks' pc' hd hn ac_boolean h0 hN hb hkc hks F
theorem yNewJ {G : zG} {d kc ks pc : Nat} {M : zM} {ls : List (Nat × Value)} {st : List Value} {I : Nat → Nat → Int32} {J : Nat → Nat → Int64} {R : Nat → Nat → Option Nat} {K : Nat → Nat × Nat} {n : Nat} {Q : Option Value → zH → Prop} {c : Int32} (N kc' ks' pc' : Nat) (hd : decode M.2.1 pc = .ok (.newarray .long, 2)) (hn : pc + 2 = pc') (h0 : ¬ c < 0) (hN : c.toNatClampNeg = N) (hb : N * componentBytes .long ≤ 536870912) (hkc : kc' + 1 = kc) (hks : ks' + N = ks) (F : zV G d M kc' ks' pc' ls (.ref n :: st) (zFr I n 0, zFr J n 0, zFr R n none, zKr K n (35, N), n + 1) Q) : zV G d M kc ks pc ls (.int c :: st) (I, J, R, K, n) Q := zNewJ (h := (I, J, R, K, n)) N kc' ks' pc' hd hn ac_long h0 hN hb hkc hks F
theorem yMulti {G : zG} {d kc ks pc : Nat} {M : zM} {ls : List (Nat × Value)} {st : List Value} {I : Nat → Nat → Int32} {J : Nat → Nat → Int64} {R : Nat → Nat → Option Nat} {K : Nat → Nat × Nat} {n : Nat} {Q : Option Value → zH → Prop} {nn kk : Int32} (idx N len kc' ks' pc' : Nat) (hd : decode M.2.1 pc = .ok (.multianewarray idx 2, 4)) (hn : pc + 4 = pc') (hw : Cond.classLink M.1.cls idx "[[I" ∈ lw_tbl) (h0 : ¬ nn < 0) (h1 : ¬ kk < 0) (hN : nn.toNatClampNeg = N) (hL : kk.toNatClampNeg = len) (hb1 : N * 4 ≤ 536870912) (hb2 : len * 4 ≤ 536870912) (hkc : kc' + (1 + N) = kc) (hks : ks' + (N + N * len) = ks) (F : zV G d M kc' ks' pc' ls (.ref n :: st) (zMf I n N 0, zMf J n N 0, zMr R n N, zMk K n N len, n + 1 + N) Q) : zV G d M kc ks pc ls (.int kk :: .int nn :: st) (I, J, R, K, n) Q := zMulti (h := (I, J, R, K, n)) idx N len kc' ks' pc' hd hn hw ac_int h0 h1 hN hL hb1 hb2 hkc hks F
theorem yNew0 {G : zG} {d kc ks pc : Nat} {M : zM} {ls : List (Nat × Value)} {st : List Value} {I : Nat → Nat → Int32} {J : Nat → Nat → Int64} {R : Nat → Nat → Option Nat} {K : Nat → Nat × Nat} {n : Nat} {Q : Option Value → zH → Prop} (idx kc' ks' pc' : Nat) (hd : decode M.2.1 pc = .ok (.new idx, 3)) (hn : pc + 3 = pc') (hw : Cond.classLink M.1.cls idx RX0 ∈ lw_tbl) (hkc : kc' + 1 = kc) (hks : ks' + 6 = ks) (F : zV G d M kc' ks' pc' ls (.ref n :: st) (zFr I n 0, zFr J n 0, zFr R n none, zKr K n (0, 0), n + 1) Q) : zV G d M kc ks pc ls st (I, J, R, K, n) Q := zNew (h := (I, J, R, K, n)) 0 idx zcls0 kc' ks' pc' hd hn hw it0 ini0 (by decide) hkc hks F
theorem yNew1 {G : zG} {d kc ks pc : Nat} {M : zM} {ls : List (Nat × Value)} {st : List Value} {I : Nat → Nat → Int32} {J : Nat → Nat → Int64} {R : Nat → Nat → Option Nat} {K : Nat → Nat × Nat} {n : Nat} {Q : Option Value → zH → Prop} (idx kc' ks' pc' : Nat) (hd : decode M.2.1 pc = .ok (.new idx, 3)) (hn : pc + 3 = pc') (hw : Cond.classLink M.1.cls idx RX1 ∈ lw_tbl) (hkc : kc' + 1 = kc) (hks : ks' + 7 = ks) (F : zV G d M kc' ks' pc' ls (.ref n :: st) (zFr I n 0, zFr J n 0, zFr R n none, zKr K n (1, 0), n + 1) Q) : zV G d M kc ks pc ls st (I, J, R, K, n) Q := zNew (h := (I, J, R, K, n)) 1 idx zcls1 kc' ks' pc' hd hn hw it1 ini1 (by decide) hkc hks F
theorem yNew2 {G : zG} {d kc ks pc : Nat} {M : zM} {ls : List (Nat × Value)} {st : List Value} {I : Nat → Nat → Int32} {J : Nat → Nat → Int64} {R : Nat → Nat → Option Nat} {K : Nat → Nat × Nat} {n : Nat} {Q : Option Value → zH → Prop} (idx kc' ks' pc' : Nat) (hd : decode M.2.1 pc = .ok (.new idx, 3)) (hn : pc + 3 = pc') (hw : Cond.classLink M.1.cls idx RX2 ∈ lw_tbl) (hkc : kc' + 1 = kc) (hks : ks' + 2 = ks) (F : zV G d M kc' ks' pc' ls (.ref n :: st) (zFr I n 0, zFr J n 0, zFr R n none, zKr K n (2, 0), n + 1) Q) : zV G d M kc ks pc ls st (I, J, R, K, n) Q := zNew (h := (I, J, R, K, n)) 2 idx zcls2 kc' ks' pc' hd hn hw it2 ini2 (by decide) hkc hks F
theorem yNew3 {G : zG} {d kc ks pc : Nat} {M : zM} {ls : List (Nat × Value)} {st : List Value} {I : Nat → Nat → Int32} {J : Nat → Nat → Int64} {R : Nat → Nat → Option Nat} {K : Nat → Nat × Nat} {n : Nat} {Q : Option Value → zH → Prop} (idx kc' ks' pc' : Nat) (hd : decode M.2.1 pc = .ok (.new idx, 3)) (hn : pc + 3 = pc') (hw : Cond.classLink M.1.cls idx RX3 ∈ lw_tbl) (hkc : kc' + 1 = kc) (hks : ks' + 3 = ks) (F : zV G d M kc' ks' pc' ls (.ref n :: st) (zFr I n 0, zFr J n 0, zFr R n none, zKr K n (3, 0), n + 1) Q) : zV G d M kc ks pc ls st (I, J, R, K, n) Q := zNew (h := (I, J, R, K, n)) 3 idx zcls3 kc' ks' pc' hd hn hw it3 ini3 (by decide) hkc hks F
theorem yNew4 {G : zG} {d kc ks pc : Nat} {M : zM} {ls : List (Nat × Value)} {st : List Value} {I : Nat → Nat → Int32} {J : Nat → Nat → Int64} {R : Nat → Nat → Option Nat} {K : Nat → Nat × Nat} {n : Nat} {Q : Option Value → zH → Prop} (idx kc' ks' pc' : Nat) (hd : decode M.2.1 pc = .ok (.new idx, 3)) (hn : pc + 3 = pc') (hw : Cond.classLink M.1.cls idx RX4 ∈ lw_tbl) (hkc : kc' + 1 = kc) (hks : ks' + 8 = ks) (F : zV G d M kc' ks' pc' ls (.ref n :: st) (zFr I n 0, zFr J n 0, zFr R n none, zKr K n (4, 0), n + 1) Q) : zV G d M kc ks pc ls st (I, J, R, K, n) Q := zNew (h := (I, J, R, K, n)) 4 idx zcls4 kc' ks' pc' hd hn hw it4 ini4 (by decide) hkc hks F
theorem yNew5 {G : zG} {d kc ks pc : Nat} {M : zM} {ls : List (Nat × Value)} {st : List Value} {I : Nat → Nat → Int32} {J : Nat → Nat → Int64} {R : Nat → Nat → Option Nat} {K : Nat → Nat × Nat} {n : Nat} {Q : Option Value → zH → Prop} (idx kc' ks' pc' : Nat) (hd : decode M.2.1 pc = .ok (.new idx, 3)) (hn : pc + 3 = pc') (hw : Cond.classLink M.1.cls idx RX5 ∈ lw_tbl) (hkc : kc' + 1 = kc) (hks : ks' + 3 = ks) (F : zV G d M kc' ks' pc' ls (.ref n :: st) (zFr I n 0, zFr J n 0, zFr R n none, zKr K n (5, 0), n + 1) Q) : zV G d M kc ks pc ls st (I, J, R, K, n) Q := zNew (h := (I, J, R, K, n)) 5 idx zcls5 kc' ks' pc' hd hn hw it5 ini5 (by decide) hkc hks F
theorem yNew6 {G : zG} {d kc ks pc : Nat} {M : zM} {ls : List (Nat × Value)} {st : List Value} {I : Nat → Nat → Int32} {J : Nat → Nat → Int64} {R : Nat → Nat → Option Nat} {K : Nat → Nat × Nat} {n : Nat} {Q : Option Value → zH → Prop} (idx kc' ks' pc' : Nat) (hd : decode M.2.1 pc = .ok (.new idx, 3)) (hn : pc + 3 = pc') (hw : Cond.classLink M.1.cls idx RX6 ∈ lw_tbl) (hkc : kc' + 1 = kc) (hks : ks' + 6 = ks) (F : zV G d M kc' ks' pc' ls (.ref n :: st) (zFr I n 0, zFr J n 0, zFr R n none, zKr K n (6, 0), n + 1) Q) : zV G d M kc ks pc ls st (I, J, R, K, n) Q := zNew (h := (I, J, R, K, n)) 6 idx zcls6 kc' ks' pc' hd hn hw it6 ini6 (by decide) hkc hks F
theorem yNew7 {G : zG} {d kc ks pc : Nat} {M : zM} {ls : List (Nat × Value)} {st : List Value} {I : Nat → Nat → Int32} {J : Nat → Nat → Int64} {R : Nat → Nat → Option Nat} {K : Nat → Nat × Nat} {n : Nat} {Q : Option Value → zH → Prop} (idx kc' ks' pc' : Nat) (hd : decode M.2.1 pc = .ok (.new idx, 3)) (hn : pc + 3 = pc') (hw : Cond.classLink M.1.cls idx RX7 ∈ lw_tbl) (hkc : kc' + 1 = kc) (hks : ks' + 4 = ks) (F : zV G d M kc' ks' pc' ls (.ref n :: st) (zFr I n 0, zFr J n 0, zFr R n none, zKr K n (7, 0), n + 1) Q) : zV G d M kc ks pc ls st (I, J, R, K, n) Q := zNew (h := (I, J, R, K, n)) 7 idx zcls7 kc' ks' pc' hd hn hw it7 ini7 (by decide) hkc hks F
theorem yNew8 {G : zG} {d kc ks pc : Nat} {M : zM} {ls : List (Nat × Value)} {st : List Value} {I : Nat → Nat → Int32} {J : Nat → Nat → Int64} {R : Nat → Nat → Option Nat} {K : Nat → Nat × Nat} {n : Nat} {Q : Option Value → zH → Prop} (idx kc' ks' pc' : Nat) (hd : decode M.2.1 pc = .ok (.new idx, 3)) (hn : pc + 3 = pc') (hw : Cond.classLink M.1.cls idx RX8 ∈ lw_tbl) (hkc : kc' + 1 = kc) (hks : ks' + 14 = ks) (F : zV G d M kc' ks' pc' ls (.ref n :: st) (zFr I n 0, zFr J n 0, zFr R n none, zKr K n (8, 0), n + 1) Q) : zV G d M kc ks pc ls st (I, J, R, K, n) Q := zNew (h := (I, J, R, K, n)) 8 idx zcls8 kc' ks' pc' hd hn hw it8 ini8 (by decide) hkc hks F
theorem yNew9 {G : zG} {d kc ks pc : Nat} {M : zM} {ls : List (Nat × Value)} {st : List Value} {I : Nat → Nat → Int32} {J : Nat → Nat → Int64} {R : Nat → Nat → Option Nat} {K : Nat → Nat × Nat} {n : Nat} {Q : Option Value → zH → Prop} (idx kc' ks' pc' : Nat) (hd : decode M.2.1 pc = .ok (.new idx, 3)) (hn : pc + 3 = pc') (hw : Cond.classLink M.1.cls idx RX9 ∈ lw_tbl) (hkc : kc' + 1 = kc) (hks : ks' + 3 = ks) (F : zV G d M kc' ks' pc' ls (.ref n :: st) (zFr I n 0, zFr J n 0, zFr R n none, zKr K n (9, 0), n + 1) Q) : zV G d M kc ks pc ls st (I, J, R, K, n) Q := zNew (h := (I, J, R, K, n)) 9 idx zcls9 kc' ks' pc' hd hn hw it9 ini9 (by decide) hkc hks F
theorem yNew10 {G : zG} {d kc ks pc : Nat} {M : zM} {ls : List (Nat × Value)} {st : List Value} {I : Nat → Nat → Int32} {J : Nat → Nat → Int64} {R : Nat → Nat → Option Nat} {K : Nat → Nat × Nat} {n : Nat} {Q : Option Value → zH → Prop} (idx kc' ks' pc' : Nat) (hd : decode M.2.1 pc = .ok (.new idx, 3)) (hn : pc + 3 = pc') (hw : Cond.classLink M.1.cls idx RX10 ∈ lw_tbl) (hkc : kc' + 1 = kc) (hks : ks' + 11 = ks) (F : zV G d M kc' ks' pc' ls (.ref n :: st) (zFr I n 0, zFr J n 0, zFr R n none, zKr K n (10, 0), n + 1) Q) : zV G d M kc ks pc ls st (I, J, R, K, n) Q := zNew (h := (I, J, R, K, n)) 10 idx zcls10 kc' ks' pc' hd hn hw it10 ini10 (by decide) hkc hks F
theorem yNew11 {G : zG} {d kc ks pc : Nat} {M : zM} {ls : List (Nat × Value)} {st : List Value} {I : Nat → Nat → Int32} {J : Nat → Nat → Int64} {R : Nat → Nat → Option Nat} {K : Nat → Nat × Nat} {n : Nat} {Q : Option Value → zH → Prop} (idx kc' ks' pc' : Nat) (hd : decode M.2.1 pc = .ok (.new idx, 3)) (hn : pc + 3 = pc') (hw : Cond.classLink M.1.cls idx RX11 ∈ lw_tbl) (hkc : kc' + 1 = kc) (hks : ks' + 18 = ks) (F : zV G d M kc' ks' pc' ls (.ref n :: st) (zFr I n 0, zFr J n 0, zFr R n none, zKr K n (11, 0), n + 1) Q) : zV G d M kc ks pc ls st (I, J, R, K, n) Q := zNew (h := (I, J, R, K, n)) 11 idx zcls11 kc' ks' pc' hd hn hw it11 ini11 (by decide) hkc hks F
theorem yNew12 {G : zG} {d kc ks pc : Nat} {M : zM} {ls : List (Nat × Value)} {st : List Value} {I : Nat → Nat → Int32} {J : Nat → Nat → Int64} {R : Nat → Nat → Option Nat} {K : Nat → Nat × Nat} {n : Nat} {Q : Option Value → zH → Prop} (idx kc' ks' pc' : Nat) (hd : decode M.2.1 pc = .ok (.new idx, 3)) (hn : pc + 3 = pc') (hw : Cond.classLink M.1.cls idx RX12 ∈ lw_tbl) (hkc : kc' + 1 = kc) (hks : ks' + 48 = ks) (F : zV G d M kc' ks' pc' ls (.ref n :: st) (zFr I n 0, zFr J n 0, zFr R n none, zKr K n (12, 0), n + 1) Q) : zV G d M kc ks pc ls st (I, J, R, K, n) Q := zNew (h := (I, J, R, K, n)) 12 idx zcls12 kc' ks' pc' hd hn hw it12 ini12 (by decide) hkc hks F
theorem sOn {G : zG} {K : Nat → Nat × Nat} {n a ci : Nat} {p : Nat × Nat} (h : sO G K n a ci) : sO G (zKr K n p) (n + 1) a ci := by
  obtain ⟨h1, h2, h3⟩ := h
  exact ⟨h1, by omega, by rw [show zKr K n p a = K a from if_neg (by omega)]; exact h3⟩
theorem sOm {G : zG} {K : Nat → Nat × Nat} {n a ci N len : Nat} (h : sO G K n a ci) : sO G (zMk K n N len) (n + 1 + N) a ci := by
  obtain ⟨h1, h2, h3⟩ := h
  exact ⟨h1, by omega, by rw [show zMk K n N len a = K a by unfold zMk; rw [if_neg (by omega), if_neg (by omega)]]; exact h3⟩
def ctX9 (I : Nat → Nat → Int32) (J : Nat → Nat → Int64) (R : Nat → Nat → Option Nat) (K : Nat → Nat × Nat) (n a : Nat) : zH :=
  ((zU (zU (zFr I n 0) a 1 0) a 2 0), (zFr J n 0), (zU (zFr R n none) a 0 (some (n))), (zKr K n (32, 240)), n + 1)
set_option maxHeartbeats 2000000 in
theorem kX9 {G : zG} {d kc ks : Nat} {I : Nat → Nat → Int32} {J : Nat → Nat → Int64} {R : Nat → Nat → Option Nat} {K : Nat → Nat × Nat} {n : Nat} {a : Nat} (ha : sO G K n a 9) : zC G (d + 1) mX9_init (kc + 1) (ks + 240) [.ref a] (I, J, R, K, n) (fun r h => r = none ∧ h = ctX9 I J R K n a) := by
  refine zC.of (by decide) (Nat.le_of_ble_eq_true rfl) ?_
  refine zAload_n 0 0 1 (by decide +kernel) rfl rfl ?_
  refine yObjI 3 4 (by decide +kernel) rfl mlX9_3 (Nat.le_of_ble_eq_true rfl) ?_
  refine zAload_n 0 0 5 (by decide +kernel) rfl rfl ?_
  refine zSipush 240 240 8 (by decide +kernel) rfl (by decide) ?_
  refine yNewI 240 (kc + 0) (ks + 0) 10 (by decide +kernel) rfl (by decide) (by decide) (by decide) (by omega) (by omega) ?_
  refine pf9_0 (v := some (n)) 11 13 (by decide +kernel) rfl flX9_11 rfl rfl (sOn ha) ?_
  refine zAload_n 0 0 14 (by decide +kernel) rfl rfl ?_
  refine zIconst 0 0 15 (by decide +kernel) rfl (by decide) ?_
  refine pf9_1 15 18 (by decide +kernel) rfl flX9_15 (sOn ha) ?_
  refine zAload_n 0 0 19 (by decide +kernel) rfl rfl ?_
  refine zIconst 0 0 20 (by decide +kernel) rfl (by decide) ?_
  refine pf9_2 19 23 (by decide +kernel) rfl flX9_19 (sOn ha) ?_
  exact zVret rfl (by decide +kernel) ⟨rfl, rfl⟩
def ctX10 (I : Nat → Nat → Int32) (J : Nat → Nat → Int64) (R : Nat → Nat → Option Nat) (K : Nat → Nat × Nat) (n a : Nat) : zH :=
  ((zFr (zU (zU (zU (zU (zU (zFr (zFr (zFr (zFr (zFr I n 0) (n + 1) 0) (n + 2) 0) (n + 3) 0) (n + 4) 0) a 5 0) a 6 0) a 7 0) a 8 0) a 9 0) (n + 5) 0), (zFr (zFr (zFr (zFr (zFr (zFr J n 0) (n + 1) 0) (n + 2) 0) (n + 3) 0) (n + 4) 0) (n + 5) 0), (zU (zFr (zU (zFr (zU (zFr (zU (zFr (zU (zFr (zU (zFr R n none) a 0 (some (n))) (n + 1) none) a 1 (some (n + 1))) (n + 2) none) a 2 (some (n + 2))) (n + 3) none) a 3 (some (n + 3))) (n + 4) none) a 4 (some (n + 4))) (n + 5) none) a 10 (some (n + 5))), (zKr (zKr (zKr (zKr (zKr (zKr K n (32, 6)) (n + 1) (32, 6)) (n + 2) (32, 9)) (n + 3) (32, 9)) (n + 4) (32, 9)) (n + 5) (32, 3)), n + 6)
set_option maxHeartbeats 2000000 in
theorem kX10 {G : zG} {d kc ks : Nat} {I : Nat → Nat → Int32} {J : Nat → Nat → Int64} {R : Nat → Nat → Option Nat} {K : Nat → Nat × Nat} {n : Nat} {a : Nat} (ha : sO G K n a 10) : zC G (d + 1) mX10_init (kc + 6) (ks + 42) [.ref a] (I, J, R, K, n) (fun r h => r = none ∧ h = ctX10 I J R K n a) := by
  refine zC.of (by decide) (Nat.le_of_ble_eq_true rfl) ?_
  refine zAload_n 0 0 1 (by decide +kernel) rfl rfl ?_
  refine yObjI 3 4 (by decide +kernel) rfl mlX10_3 (Nat.le_of_ble_eq_true rfl) ?_
  refine zAload_n 0 0 5 (by decide +kernel) rfl rfl ?_
  refine zBipush 6 6 7 (by decide +kernel) rfl (by decide) ?_
  refine yNewI 6 (kc + 5) (ks + 36) 9 (by decide +kernel) rfl (by decide) (by decide) (by decide) (by omega) (by omega) ?_
  refine pf10_0 (v := some (n)) 9 12 (by decide +kernel) rfl flX10_9 rfl rfl (sOn ha) ?_
  refine zAload_n 0 0 13 (by decide +kernel) rfl rfl ?_
  refine zBipush 6 6 15 (by decide +kernel) rfl (by decide) ?_
  refine yNewI 6 (kc + 4) (ks + 30) 17 (by decide +kernel) rfl (by decide) (by decide) (by decide) (by omega) (by omega) ?_
  refine pf10_1 (v := some (n + 1)) 15 20 (by decide +kernel) rfl flX10_15 rfl rfl (sOn (sOn ha)) ?_
  refine zAload_n 0 0 21 (by decide +kernel) rfl rfl ?_
  refine zBipush 9 9 23 (by decide +kernel) rfl (by decide) ?_
  refine yNewI 9 (kc + 3) (ks + 21) 25 (by decide +kernel) rfl (by decide) (by decide) (by decide) (by omega) (by omega) ?_
  refine pf10_2 (v := some (n + 2)) 18 28 (by decide +kernel) rfl flX10_18 rfl rfl (sOn (sOn (sOn ha))) ?_
  refine zAload_n 0 0 29 (by decide +kernel) rfl rfl ?_
  refine zBipush 9 9 31 (by decide +kernel) rfl (by decide) ?_
  refine yNewI 9 (kc + 2) (ks + 12) 33 (by decide +kernel) rfl (by decide) (by decide) (by decide) (by omega) (by omega) ?_
  refine pf10_3 (v := some (n + 3)) 21 36 (by decide +kernel) rfl flX10_21 rfl rfl (sOn (sOn (sOn (sOn ha)))) ?_
  refine zAload_n 0 0 37 (by decide +kernel) rfl rfl ?_
  refine zBipush 9 9 39 (by decide +kernel) rfl (by decide) ?_
  refine yNewI 9 (kc + 1) (ks + 3) 41 (by decide +kernel) rfl (by decide) (by decide) (by decide) (by omega) (by omega) ?_
  refine pf10_4 (v := some (n + 4)) 24 44 (by decide +kernel) rfl flX10_24 rfl rfl (sOn (sOn (sOn (sOn (sOn ha))))) ?_
  refine zAload_n 0 0 45 (by decide +kernel) rfl rfl ?_
  refine zIconst 0 0 46 (by decide +kernel) rfl (by decide) ?_
  refine pf10_5 27 49 (by decide +kernel) rfl flX10_27 (sOn (sOn (sOn (sOn (sOn ha))))) ?_
  refine zAload_n 0 0 50 (by decide +kernel) rfl rfl ?_
  refine zIconst 0 0 51 (by decide +kernel) rfl (by decide) ?_
  refine pf10_6 31 54 (by decide +kernel) rfl flX10_31 (sOn (sOn (sOn (sOn (sOn ha))))) ?_
  refine zAload_n 0 0 55 (by decide +kernel) rfl rfl ?_
  refine zIconst 0 0 56 (by decide +kernel) rfl (by decide) ?_
  refine pf10_7 34 59 (by decide +kernel) rfl flX10_34 (sOn (sOn (sOn (sOn (sOn ha))))) ?_
  refine zAload_n 0 0 60 (by decide +kernel) rfl rfl ?_
  refine zIconst 0 0 61 (by decide +kernel) rfl (by decide) ?_
  refine pf10_8 37 64 (by decide +kernel) rfl flX10_37 (sOn (sOn (sOn (sOn (sOn ha))))) ?_
  refine zAload_n 0 0 65 (by decide +kernel) rfl rfl ?_
  refine zIconst 0 0 66 (by decide +kernel) rfl (by decide) ?_
  refine pf10_9 40 69 (by decide +kernel) rfl flX10_40 (Or.inl rfl) (sOn (sOn (sOn (sOn (sOn ha))))) ?_
  refine zAload_n 0 0 70 (by decide +kernel) rfl rfl ?_
  refine zIconst 3 3 71 (by decide +kernel) rfl (by decide) ?_
  refine yNewI 3 (kc + 0) (ks + 0) 73 (by decide +kernel) rfl (by decide) (by decide) (by decide) (by omega) (by omega) ?_
  refine pf10_10 (v := some (n + 5)) 44 76 (by decide +kernel) rfl flX10_44 rfl rfl (sOn (sOn (sOn (sOn (sOn (sOn ha)))))) ?_
  exact zVret rfl (by decide +kernel) ⟨rfl, rfl⟩
def ctX8 (I : Nat → Nat → Int32) (J : Nat → Nat → Int64) (R : Nat → Nat → Option Nat) (K : Nat → Nat × Nat) (n a : Nat) (p1 : Nat) : zH :=
  ((zFr (zU (zU (zU (zU (zU (zU (zFr (zFr (zFr (zFr (zFr (zFr I n 0) (n + 1) 0) (n + 2) 0) (n + 3) 0) (n + 4) 0) (n + 5) 0) a 6 0) a 7 0) a 8 0) a 9 0) a 10 0) a 11 0) (n + 6) 0), (zFr (zFr (zFr (zFr (zFr (zFr (zFr J n 0) (n + 1) 0) (n + 2) 0) (n + 3) 0) (n + 4) 0) (n + 5) 0) (n + 6) 0), (zU (zU (zFr (zU (zFr (zU (zFr (zU (zFr (zU (zFr (zU (zFr (zU (zFr R n none) a 0 (some (n))) (n + 1) none) a 1 (some (n + 1))) (n + 2) none) a 2 (some (n + 2))) (n + 3) none) a 3 (some (n + 3))) (n + 4) none) a 4 (some (n + 4))) (n + 5) none) a 5 (some (n + 5))) (n + 6) none) a 13 (some (n + 6))) a 12 (some (p1))), (zKr (zKr (zKr (zKr (zKr (zKr (zKr K n (32, 9)) (n + 1) (32, 9)) (n + 2) (32, 9)) (n + 3) (32, 6)) (n + 4) (32, 6)) (n + 5) (32, 6)) (n + 6) (32, 50)), n + 7)
set_option maxHeartbeats 2000000 in
theorem kX8 {G : zG} {d kc ks : Nat} {I : Nat → Nat → Int32} {J : Nat → Nat → Int64} {R : Nat → Nat → Option Nat} {K : Nat → Nat × Nat} {n : Nat} {a : Nat} (p1 : Nat) (ha : sO G K n a 8) : zC G (d + 1) mX8_init (kc + 7) (ks + 95) [.ref a, .ref p1] (I, J, R, K, n) (fun r h => r = none ∧ h = ctX8 I J R K n a p1) := by
  refine zC.of (by decide) (Nat.le_of_ble_eq_true rfl) ?_
  refine zAload_n 0 0 1 (by decide +kernel) rfl rfl ?_
  refine yObjI 5 4 (by decide +kernel) rfl mlX8_5 (Nat.le_of_ble_eq_true rfl) ?_
  refine zAload_n 0 0 5 (by decide +kernel) rfl rfl ?_
  refine zBipush 9 9 7 (by decide +kernel) rfl (by decide) ?_
  refine yNewI 9 (kc + 6) (ks + 86) 9 (by decide +kernel) rfl (by decide) (by decide) (by decide) (by omega) (by omega) ?_
  refine pf8_0 (v := some (n)) 11 12 (by decide +kernel) rfl flX8_11 rfl rfl (sOn ha) ?_
  refine zAload_n 0 0 13 (by decide +kernel) rfl rfl ?_
  refine zBipush 9 9 15 (by decide +kernel) rfl (by decide) ?_
  refine yNewI 9 (kc + 5) (ks + 77) 17 (by decide +kernel) rfl (by decide) (by decide) (by decide) (by omega) (by omega) ?_
  refine pf8_1 (v := some (n + 1)) 15 20 (by decide +kernel) rfl flX8_15 rfl rfl (sOn (sOn ha)) ?_
  refine zAload_n 0 0 21 (by decide +kernel) rfl rfl ?_
  refine zBipush 9 9 23 (by decide +kernel) rfl (by decide) ?_
  refine yNewI 9 (kc + 4) (ks + 68) 25 (by decide +kernel) rfl (by decide) (by decide) (by decide) (by omega) (by omega) ?_
  refine pf8_2 (v := some (n + 2)) 18 28 (by decide +kernel) rfl flX8_18 rfl rfl (sOn (sOn (sOn ha))) ?_
  refine zAload_n 0 0 29 (by decide +kernel) rfl rfl ?_
  refine zBipush 6 6 31 (by decide +kernel) rfl (by decide) ?_
  refine yNewI 6 (kc + 3) (ks + 62) 33 (by decide +kernel) rfl (by decide) (by decide) (by decide) (by omega) (by omega) ?_
  refine pf8_3 (v := some (n + 3)) 21 36 (by decide +kernel) rfl flX8_21 rfl rfl (sOn (sOn (sOn (sOn ha)))) ?_
  refine zAload_n 0 0 37 (by decide +kernel) rfl rfl ?_
  refine zBipush 6 6 39 (by decide +kernel) rfl (by decide) ?_
  refine yNewI 6 (kc + 2) (ks + 56) 41 (by decide +kernel) rfl (by decide) (by decide) (by decide) (by omega) (by omega) ?_
  refine pf8_4 (v := some (n + 4)) 24 44 (by decide +kernel) rfl flX8_24 rfl rfl (sOn (sOn (sOn (sOn (sOn ha))))) ?_
  refine zAload_n 0 0 45 (by decide +kernel) rfl rfl ?_
  refine zBipush 6 6 47 (by decide +kernel) rfl (by decide) ?_
  refine yNewI 6 (kc + 1) (ks + 50) 49 (by decide +kernel) rfl (by decide) (by decide) (by decide) (by omega) (by omega) ?_
  refine pf8_5 (v := some (n + 5)) 27 52 (by decide +kernel) rfl flX8_27 rfl rfl (sOn (sOn (sOn (sOn (sOn (sOn ha)))))) ?_
  refine zAload_n 0 0 53 (by decide +kernel) rfl rfl ?_
  refine zIconst 0 0 54 (by decide +kernel) rfl (by decide) ?_
  refine pf8_6 30 57 (by decide +kernel) rfl flX8_30 (sOn (sOn (sOn (sOn (sOn (sOn ha)))))) ?_
  refine zAload_n 0 0 58 (by decide +kernel) rfl rfl ?_
  refine zIconst 0 0 59 (by decide +kernel) rfl (by decide) ?_
  refine pf8_7 34 62 (by decide +kernel) rfl flX8_34 (sOn (sOn (sOn (sOn (sOn (sOn ha)))))) ?_
  refine zAload_n 0 0 63 (by decide +kernel) rfl rfl ?_
  refine zIconst 0 0 64 (by decide +kernel) rfl (by decide) ?_
  refine pf8_8 37 67 (by decide +kernel) rfl flX8_37 (sOn (sOn (sOn (sOn (sOn (sOn ha)))))) ?_
  refine zAload_n 0 0 68 (by decide +kernel) rfl rfl ?_
  refine zIconst 0 0 69 (by decide +kernel) rfl (by decide) ?_
  refine pf8_9 40 72 (by decide +kernel) rfl flX8_40 (sOn (sOn (sOn (sOn (sOn (sOn ha)))))) ?_
  refine zAload_n 0 0 73 (by decide +kernel) rfl rfl ?_
  refine zIconst 0 0 74 (by decide +kernel) rfl (by decide) ?_
  refine pf8_10 43 77 (by decide +kernel) rfl flX8_43 (sOn (sOn (sOn (sOn (sOn (sOn ha)))))) ?_
  refine zAload_n 0 0 78 (by decide +kernel) rfl rfl ?_
  refine zIconst 0 0 79 (by decide +kernel) rfl (by decide) ?_
  refine pf8_11 46 82 (by decide +kernel) rfl flX8_46 (sOn (sOn (sOn (sOn (sOn (sOn ha)))))) ?_
  refine zAload_n 0 0 83 (by decide +kernel) rfl rfl ?_
  refine zBipush 50 50 85 (by decide +kernel) rfl (by decide) ?_
  refine yNewI 50 (kc + 0) (ks + 0) 87 (by decide +kernel) rfl (by decide) (by decide) (by decide) (by omega) (by omega) ?_
  refine pf8_13 (v := some (n + 6)) 49 90 (by decide +kernel) rfl flX8_49 rfl rfl (sOn (sOn (sOn (sOn (sOn (sOn (sOn ha))))))) ?_
  refine zAload_n 0 0 91 (by decide +kernel) rfl rfl ?_
  refine zAload_n 1 1 92 (by decide +kernel) rfl rfl ?_
  refine pf8_12 (v := some (p1)) 52 95 (by decide +kernel) rfl flX8_52 rfl rfl (sOn (sOn (sOn (sOn (sOn (sOn (sOn ha))))))) ?_
  exact zVret rfl (by decide +kernel) ⟨rfl, rfl⟩
def ctX1 (I : Nat → Nat → Int32) (J : Nat → Nat → Int64) (R : Nat → Nat → Option Nat) (K : Nat → Nat × Nat) (n a : Nat) : zH :=
  ((zMf (zFr (zU (zMf (zU (zMf (zU I a 0 0) n 41 0) a 2 0) (n + 42) 3 0) a 4 0) (n + 46) 0) (n + 47) 3 0), (zMf (zFr (zMf (zMf J n 41 0) (n + 42) 3 0) (n + 46) 0) (n + 47) 3 0), (zU (zMr (zU (zFr (zU (zMr (zU (zMr R n 41) a 1 (some (n))) (n + 42) 3) a 3 (some (n + 42))) (n + 46) none) a 5 (some (n + 46))) (n + 47) 3) a 6 (some (n + 47))), (zMk (zKr (zMk (zMk K n 41 50) (n + 42) 3 100) (n + 46) (32, 50)) (n + 47) 3 60), n + 51)
set_option maxHeartbeats 2000000 in
theorem kX1 {G : zG} {d kc ks : Nat} {I : Nat → Nat → Int32} {J : Nat → Nat → Int64} {R : Nat → Nat → Option Nat} {K : Nat → Nat × Nat} {n : Nat} {a : Nat} (ha : sO G K n a 1) : zC G (d + 1) mX1_init (kc + 51) (ks + 2627) [.ref a] (I, J, R, K, n) (fun r h => r = none ∧ h = ctX1 I J R K n a) := by
  refine zC.of (by decide) (Nat.le_of_ble_eq_true rfl) ?_
  refine zAload_n 0 0 1 (by decide +kernel) rfl rfl ?_
  refine yObjI 3 4 (by decide +kernel) rfl mlX1_3 (Nat.le_of_ble_eq_true rfl) ?_
  refine zAload_n 0 0 5 (by decide +kernel) rfl rfl ?_
  refine zIconst 0 0 6 (by decide +kernel) rfl (by decide) ?_
  refine pf1_0 9 9 (by decide +kernel) rfl flX1_9 ha ?_
  refine zAload_n 0 0 10 (by decide +kernel) rfl rfl ?_
  refine zBipush 41 41 12 (by decide +kernel) rfl (by decide) ?_
  refine zBipush 50 50 14 (by decide +kernel) rfl (by decide) ?_
  refine yMulti 15 41 50 (kc + 9) (ks + 536) 18 (by decide +kernel) rfl clX1_15 (by decide) (by decide) (by decide) (by decide) (by decide) (by decide) (by omega) (by omega) ?_
  refine pf1_1 (v := some (n)) 17 21 (by decide +kernel) rfl flX1_17 rfl rfl (sOm ha) ?_
  refine zAload_n 0 0 22 (by decide +kernel) rfl rfl ?_
  refine zIconst 0 0 23 (by decide +kernel) rfl (by decide) ?_
  refine pf1_2 20 26 (by decide +kernel) rfl flX1_20 (sOm ha) ?_
  refine zAload_n 0 0 27 (by decide +kernel) rfl rfl ?_
  refine zIconst 3 3 28 (by decide +kernel) rfl (by decide) ?_
  refine zBipush 100 100 30 (by decide +kernel) rfl (by decide) ?_
  refine yMulti 15 3 100 (kc + 5) (ks + 233) 34 (by decide +kernel) rfl clX1_15 (by decide) (by decide) (by decide) (by decide) (by decide) (by decide) (by omega) (by omega) ?_
  refine pf1_3 (v := some (n + 42)) 23 37 (by decide +kernel) rfl flX1_23 rfl rfl (sOm (sOm ha)) ?_
  refine zAload_n 0 0 38 (by decide +kernel) rfl rfl ?_
  refine zIconst 0 0 39 (by decide +kernel) rfl (by decide) ?_
  refine pf1_4 26 42 (by decide +kernel) rfl flX1_26 (Or.inl rfl) (sOm (sOm ha)) ?_
  refine zAload_n 0 0 43 (by decide +kernel) rfl rfl ?_
  refine zBipush 50 50 45 (by decide +kernel) rfl (by decide) ?_
  refine yNewI 50 (kc + 4) (ks + 183) 47 (by decide +kernel) rfl (by decide) (by decide) (by decide) (by omega) (by omega) ?_
  refine pf1_5 (v := some (n + 46)) 30 50 (by decide +kernel) rfl flX1_30 rfl rfl (sOn (sOm (sOm ha))) ?_
  refine zAload_n 0 0 51 (by decide +kernel) rfl rfl ?_
  refine zIconst 3 3 52 (by decide +kernel) rfl (by decide) ?_
  refine zBipush 60 60 54 (by decide +kernel) rfl (by decide) ?_
  refine yMulti 15 3 60 (kc + 0) (ks + 0) 58 (by decide +kernel) rfl clX1_15 (by decide) (by decide) (by decide) (by decide) (by decide) (by decide) (by omega) (by omega) ?_
  refine pf1_6 (v := some (n + 47)) 34 61 (by decide +kernel) rfl flX1_34 rfl rfl (sOm (sOn (sOm (sOm ha)))) ?_
  exact zVret rfl (by decide +kernel) ⟨rfl, rfl⟩
def ctX4 (I : Nat → Nat → Int32) (J : Nat → Nat → Int64) (R : Nat → Nat → Option Nat) (K : Nat → Nat × Nat) (n a : Nat) (p1 : Nat) : zH :=
  ((zFr (zU (zU (zU (zU (zU (zU I a 0 (-1)) a 1 (-1)) a 2 (-1)) a 3 0) a 4 0) a 5 0) n 0), (zFr J n 0), (zU (zU (zFr R n none) a 7 (some (n))) a 6 (some (p1))), (zKr K n (32, 9)), n + 1)
set_option maxHeartbeats 2000000 in
theorem kX4 {G : zG} {d kc ks : Nat} {I : Nat → Nat → Int32} {J : Nat → Nat → Int64} {R : Nat → Nat → Option Nat} {K : Nat → Nat × Nat} {n : Nat} {a : Nat} (p1 : Nat) (ha : sO G K n a 4) : zC G (d + 1) mX4_init (kc + 1) (ks + 9) [.ref a, .ref p1] (I, J, R, K, n) (fun r h => r = none ∧ h = ctX4 I J R K n a p1) := by
  refine zC.of (by decide) (Nat.le_of_ble_eq_true rfl) ?_
  refine zAload_n 0 0 1 (by decide +kernel) rfl rfl ?_
  refine yObjI 3 4 (by decide +kernel) rfl mlX4_3 (Nat.le_of_ble_eq_true rfl) ?_
  refine zAload_n 0 0 5 (by decide +kernel) rfl rfl ?_
  refine zIconst (-1) (-1) 6 (by decide +kernel) rfl (by decide) ?_
  refine pf4_0 9 9 (by decide +kernel) rfl flX4_9 ha ?_
  refine zAload_n 0 0 10 (by decide +kernel) rfl rfl ?_
  refine zIconst (-1) (-1) 11 (by decide +kernel) rfl (by decide) ?_
  refine pf4_1 15 14 (by decide +kernel) rfl flX4_15 ha ?_
  refine zAload_n 0 0 15 (by decide +kernel) rfl rfl ?_
  refine zIconst (-1) (-1) 16 (by decide +kernel) rfl (by decide) ?_
  refine pf4_2 18 19 (by decide +kernel) rfl flX4_18 ha ?_
  refine zAload_n 0 0 20 (by decide +kernel) rfl rfl ?_
  refine zIconst 0 0 21 (by decide +kernel) rfl (by decide) ?_
  refine pf4_3 21 24 (by decide +kernel) rfl flX4_21 ha ?_
  refine zAload_n 0 0 25 (by decide +kernel) rfl rfl ?_
  refine zIconst 0 0 26 (by decide +kernel) rfl (by decide) ?_
  refine pf4_4 24 29 (by decide +kernel) rfl flX4_24 ha ?_
  refine zAload_n 0 0 30 (by decide +kernel) rfl rfl ?_
  refine zIconst 0 0 31 (by decide +kernel) rfl (by decide) ?_
  refine pf4_5 27 34 (by decide +kernel) rfl flX4_27 ha ?_
  refine zAload_n 0 0 35 (by decide +kernel) rfl rfl ?_
  refine zBipush 9 9 37 (by decide +kernel) rfl (by decide) ?_
  refine yNewI 9 (kc + 0) (ks + 0) 39 (by decide +kernel) rfl (by decide) (by decide) (by decide) (by omega) (by omega) ?_
  refine pf4_7 (v := some (n)) 30 42 (by decide +kernel) rfl flX4_30 rfl rfl (sOn ha) ?_
  refine zAload_n 0 0 43 (by decide +kernel) rfl rfl ?_
  refine zAload_n 1 1 44 (by decide +kernel) rfl rfl ?_
  refine pf4_6 (v := some (p1)) 34 47 (by decide +kernel) rfl flX4_34 rfl rfl (sOn ha) ?_
  exact zVret rfl (by decide +kernel) ⟨rfl, rfl⟩
def ctX6 (I : Nat → Nat → Int32) (J : Nat → Nat → Int64) (R : Nat → Nat → Option Nat) (K : Nat → Nat × Nat) (n a : Nat) (p1 : Nat) : zH :=
  ((zFr (zFr (zFr (zFr (zU I a 0 0) n 0) (n + 1) 0) (n + 2) 0) (n + 3) 0), (zFr (zFr (zFr (zFr J n 0) (n + 1) 0) (n + 2) 0) (n + 3) 0), (zU (zU (zFr (zU (zFr (zU (zFr (zU (zFr R n none) a 1 (some (n))) (n + 1) none) a 2 (some (n + 1))) (n + 2) none) a 3 (some (n + 2))) (n + 3) none) a 4 (some (n + 3))) a 5 (some (p1))), (zKr (zKr (zKr (zKr K n (32, 10)) (n + 1) (32, 10)) (n + 2) (34, 10)) (n + 3) (32, 10)), n + 4)
set_option maxHeartbeats 2000000 in
theorem kX6 {G : zG} {d kc ks : Nat} {I : Nat → Nat → Int32} {J : Nat → Nat → Int64} {R : Nat → Nat → Option Nat} {K : Nat → Nat × Nat} {n : Nat} {a : Nat} (p1 : Nat) (ha : sO G K n a 6) : zC G (d + 1) mX6_init (kc + 4) (ks + 40) [.ref a, .ref p1] (I, J, R, K, n) (fun r h => r = none ∧ h = ctX6 I J R K n a p1) := by
  refine zC.of (by decide) (Nat.le_of_ble_eq_true rfl) ?_
  refine zAload_n 0 0 1 (by decide +kernel) rfl rfl ?_
  refine yObjI 3 4 (by decide +kernel) rfl mlX6_3 (Nat.le_of_ble_eq_true rfl) ?_
  refine zAload_n 0 0 5 (by decide +kernel) rfl rfl ?_
  refine zIconst 0 0 6 (by decide +kernel) rfl (by decide) ?_
  refine pf6_0 9 9 (by decide +kernel) rfl flX6_9 ha ?_
  refine zAload_n 0 0 10 (by decide +kernel) rfl rfl ?_
  refine zBipush 10 10 12 (by decide +kernel) rfl (by decide) ?_
  refine yNewI 10 (kc + 3) (ks + 30) 14 (by decide +kernel) rfl (by decide) (by decide) (by decide) (by omega) (by omega) ?_
  refine pf6_1 (v := some (n)) 15 17 (by decide +kernel) rfl flX6_15 rfl rfl (sOn ha) ?_
  refine zAload_n 0 0 18 (by decide +kernel) rfl rfl ?_
  refine zBipush 10 10 20 (by decide +kernel) rfl (by decide) ?_
  refine yNewI 10 (kc + 2) (ks + 20) 22 (by decide +kernel) rfl (by decide) (by decide) (by decide) (by omega) (by omega) ?_
  refine pf6_2 (v := some (n + 1)) 19 25 (by decide +kernel) rfl flX6_19 rfl rfl (sOn (sOn ha)) ?_
  refine zAload_n 0 0 26 (by decide +kernel) rfl rfl ?_
  refine zBipush 10 10 28 (by decide +kernel) rfl (by decide) ?_
  refine yNewZ 10 (kc + 1) (ks + 10) 30 (by decide +kernel) rfl (by decide) (by decide) (by decide) (by omega) (by omega) ?_
  refine pf6_3 (v := some (n + 2)) 22 33 (by decide +kernel) rfl flX6_22 rfl rfl (sOn (sOn (sOn ha))) ?_
  refine zAload_n 0 0 34 (by decide +kernel) rfl rfl ?_
  refine zBipush 10 10 36 (by decide +kernel) rfl (by decide) ?_
  refine yNewI 10 (kc + 0) (ks + 0) 38 (by decide +kernel) rfl (by decide) (by decide) (by decide) (by omega) (by omega) ?_
  refine pf6_4 (v := some (n + 3)) 26 41 (by decide +kernel) rfl flX6_26 rfl rfl (sOn (sOn (sOn (sOn ha)))) ?_
  refine zAload_n 0 0 42 (by decide +kernel) rfl rfl ?_
  refine zAload_n 1 1 43 (by decide +kernel) rfl rfl ?_
  refine pf6_5 (v := some (p1)) 29 46 (by decide +kernel) rfl flX6_29 rfl rfl (sOn (sOn (sOn (sOn ha)))) ?_
  exact zVret rfl (by decide +kernel) ⟨rfl, rfl⟩
def ctX0 (I : Nat → Nat → Int32) (J : Nat → Nat → Int64) (R : Nat → Nat → Option Nat) (K : Nat → Nat × Nat) (n a : Nat) (p1 : Nat) (p2 : Nat) : zH :=
  ((zU (zFr (zMf (zMf I n 3 0) (n + 4) 3 0) (n + 8) 0) a 3 0), (zFr (zMf (zMf J n 3 0) (n + 4) 3 0) (n + 8) 0), (zU (zU (zU (zFr (zU (zMr (zU (zMr R n 3) a 0 (some (n))) (n + 4) 3) a 1 (some (n + 4))) (n + 8) none) a 2 (some (n + 8))) a 4 (some (p1))) a 5 (some (p2))), (zKr (zMk (zMk K n 3 3) (n + 4) 3 3) (n + 8) (32, 9)), n + 9)
set_option maxHeartbeats 2000000 in
theorem kX0 {G : zG} {d kc ks : Nat} {I : Nat → Nat → Int32} {J : Nat → Nat → Int64} {R : Nat → Nat → Option Nat} {K : Nat → Nat × Nat} {n : Nat} {a : Nat} (p1 : Nat) (p2 : Nat) (ha : sO G K n a 0) : zC G (d + 1) mX0_init (kc + 9) (ks + 33) [.ref a, .ref p1, .ref p2] (I, J, R, K, n) (fun r h => r = none ∧ h = ctX0 I J R K n a p1 p2) := by
  refine zC.of (by decide) (Nat.le_of_ble_eq_true rfl) ?_
  refine zAload_n 0 0 1 (by decide +kernel) rfl rfl ?_
  refine yObjI 3 4 (by decide +kernel) rfl mlX0_3 (Nat.le_of_ble_eq_true rfl) ?_
  refine zAload_n 0 0 5 (by decide +kernel) rfl rfl ?_
  refine zIconst 3 3 6 (by decide +kernel) rfl (by decide) ?_
  refine zIconst 3 3 7 (by decide +kernel) rfl (by decide) ?_
  refine yMulti 11 3 3 (kc + 5) (ks + 21) 11 (by decide +kernel) rfl clX0_11 (by decide) (by decide) (by decide) (by decide) (by decide) (by decide) (by omega) (by omega) ?_
  refine pf0_0 (v := some (n)) 13 14 (by decide +kernel) rfl flX0_13 rfl rfl (sOm ha) ?_
  refine zAload_n 0 0 15 (by decide +kernel) rfl rfl ?_
  refine zIconst 3 3 16 (by decide +kernel) rfl (by decide) ?_
  refine zIconst 3 3 17 (by decide +kernel) rfl (by decide) ?_
  refine yMulti 11 3 3 (kc + 1) (ks + 9) 21 (by decide +kernel) rfl clX0_11 (by decide) (by decide) (by decide) (by decide) (by decide) (by decide) (by omega) (by omega) ?_
  refine pf0_1 (v := some (n + 4)) 16 24 (by decide +kernel) rfl flX0_16 rfl rfl (sOm (sOm ha)) ?_
  refine zAload_n 0 0 25 (by decide +kernel) rfl rfl ?_
  refine zBipush 9 9 27 (by decide +kernel) rfl (by decide) ?_
  refine yNewI 9 (kc + 0) (ks + 0) 29 (by decide +kernel) rfl (by decide) (by decide) (by decide) (by omega) (by omega) ?_
  refine pf0_2 (v := some (n + 8)) 19 32 (by decide +kernel) rfl flX0_19 rfl rfl (sOn (sOm (sOm ha))) ?_
  refine zAload_n 0 0 33 (by decide +kernel) rfl rfl ?_
  refine zIconst 0 0 34 (by decide +kernel) rfl (by decide) ?_
  refine pf0_3 23 37 (by decide +kernel) rfl flX0_23 (sOn (sOm (sOm ha))) ?_
  refine zAload_n 0 0 38 (by decide +kernel) rfl rfl ?_
  refine zAload_n 1 1 39 (by decide +kernel) rfl rfl ?_
  refine pf0_4 (v := some (p1)) 27 42 (by decide +kernel) rfl flX0_27 rfl rfl (sOn (sOm (sOm ha))) ?_
  refine zAload_n 0 0 43 (by decide +kernel) rfl rfl ?_
  refine zAload_n 2 2 44 (by decide +kernel) rfl rfl ?_
  refine pf0_5 (v := some (p2)) 31 47 (by decide +kernel) rfl flX0_31 rfl rfl (sOn (sOm (sOm ha))) ?_
  exact zVret rfl (by decide +kernel) ⟨rfl, rfl⟩
def ctX3 (I : Nat → Nat → Int32) (J : Nat → Nat → Int64) (R : Nat → Nat → Option Nat) (K : Nat → Nat × Nat) (n a : Nat) : zH :=
  ((zU (zFr I n 0) a 1 0), (zFr J n 0), (zU (zU (zFr R n none) a 0 (some (n))) a 2 (none)), (zKr K n (32, 240)), n + 1)
set_option maxHeartbeats 2000000 in
theorem kX3 {G : zG} {d kc ks : Nat} {I : Nat → Nat → Int32} {J : Nat → Nat → Int64} {R : Nat → Nat → Option Nat} {K : Nat → Nat × Nat} {n : Nat} {a : Nat} (ha : sO G K n a 3) : zC G (d + 1) mX3_init (kc + 1) (ks + 240) [.ref a] (I, J, R, K, n) (fun r h => r = none ∧ h = ctX3 I J R K n a) := by
  refine zC.of (by decide) (Nat.le_of_ble_eq_true rfl) ?_
  refine zAload_n 0 0 1 (by decide +kernel) rfl rfl ?_
  refine yObjI 3 4 (by decide +kernel) rfl mlX3_3 (Nat.le_of_ble_eq_true rfl) ?_
  refine zAload_n 0 0 5 (by decide +kernel) rfl rfl ?_
  refine zSipush 240 240 8 (by decide +kernel) rfl (by decide) ?_
  refine yNewI 240 (kc + 0) (ks + 0) 10 (by decide +kernel) rfl (by decide) (by decide) (by decide) (by omega) (by omega) ?_
  refine pf3_0 (v := some (n)) 11 13 (by decide +kernel) rfl flX3_11 rfl rfl (sOn ha) ?_
  refine zAload_n 0 0 14 (by decide +kernel) rfl rfl ?_
  refine zIconst 0 0 15 (by decide +kernel) rfl (by decide) ?_
  refine pf3_1 17 18 (by decide +kernel) rfl flX3_17 (sOn ha) ?_
  refine zAload_n 0 0 19 (by decide +kernel) rfl rfl ?_
  refine zNull 20 (by decide +kernel) rfl ?_
  refine pf3_2 (v := none) 21 23 (by decide +kernel) rfl flX3_21 (sOn ha) ?_
  exact zVret rfl (by decide +kernel) ⟨rfl, rfl⟩
def ctX7 (I : Nat → Nat → Int32) (J : Nat → Nat → Int64) (R : Nat → Nat → Option Nat) (K : Nat → Nat × Nat) (n a : Nat) : zH :=
  ((zU (zFr (zFr (zFr I n 0) (n + 1) 0) (n + 2) 0) a 3 0), (zFr (zFr (zFr J n 0) (n + 1) 0) (n + 2) 0), (zU (zFr (zU (zFr (zU (zFr R n none) a 0 (some (n))) (n + 1) none) a 1 (some (n + 1))) (n + 2) none) a 2 (some (n + 2))), (zKr (zKr (zKr K n (32, 16)) (n + 1) (32, 16)) (n + 2) (32, 16)), n + 3)
set_option maxHeartbeats 2000000 in
theorem kX7 {G : zG} {d kc ks : Nat} {I : Nat → Nat → Int32} {J : Nat → Nat → Int64} {R : Nat → Nat → Option Nat} {K : Nat → Nat × Nat} {n : Nat} {a : Nat} (ha : sO G K n a 7) : zC G (d + 1) mX7_init (kc + 3) (ks + 48) [.ref a] (I, J, R, K, n) (fun r h => r = none ∧ h = ctX7 I J R K n a) := by
  refine zC.of (by decide) (Nat.le_of_ble_eq_true rfl) ?_
  refine zAload_n 0 0 1 (by decide +kernel) rfl rfl ?_
  refine yObjI 3 4 (by decide +kernel) rfl mlX7_3 (Nat.le_of_ble_eq_true rfl) ?_
  refine zAload_n 0 0 5 (by decide +kernel) rfl rfl ?_
  refine zBipush 16 16 7 (by decide +kernel) rfl (by decide) ?_
  refine yNewI 16 (kc + 2) (ks + 32) 9 (by decide +kernel) rfl (by decide) (by decide) (by decide) (by omega) (by omega) ?_
  refine pf7_0 (v := some (n)) 11 12 (by decide +kernel) rfl flX7_11 rfl rfl (sOn ha) ?_
  refine zAload_n 0 0 13 (by decide +kernel) rfl rfl ?_
  refine zBipush 16 16 15 (by decide +kernel) rfl (by decide) ?_
  refine yNewI 16 (kc + 1) (ks + 16) 17 (by decide +kernel) rfl (by decide) (by decide) (by decide) (by omega) (by omega) ?_
  refine pf7_1 (v := some (n + 1)) 15 20 (by decide +kernel) rfl flX7_15 rfl rfl (sOn (sOn ha)) ?_
  refine zAload_n 0 0 21 (by decide +kernel) rfl rfl ?_
  refine zBipush 16 16 23 (by decide +kernel) rfl (by decide) ?_
  refine yNewI 16 (kc + 0) (ks + 0) 25 (by decide +kernel) rfl (by decide) (by decide) (by decide) (by omega) (by omega) ?_
  refine pf7_2 (v := some (n + 2)) 18 28 (by decide +kernel) rfl flX7_18 rfl rfl (sOn (sOn (sOn ha))) ?_
  refine zAload_n 0 0 29 (by decide +kernel) rfl rfl ?_
  refine zIconst 0 0 30 (by decide +kernel) rfl (by decide) ?_
  refine pf7_3 21 33 (by decide +kernel) rfl flX7_21 (sOn (sOn (sOn ha))) ?_
  exact zVret rfl (by decide +kernel) ⟨rfl, rfl⟩
def ctX2 (I : Nat → Nat → Int32) (J : Nat → Nat → Int64) (R : Nat → Nat → Option Nat) (K : Nat → Nat × Nat) (n a : Nat) (p1 : Nat) : zH :=
  ((zFr I n 0), (zFr J n 0), (zU (zU (zFr R n none) a 1 (some (n))) a 0 (some (p1))), (zKr K n (32, 32)), n + 1)
set_option maxHeartbeats 2000000 in
theorem kX2 {G : zG} {d kc ks : Nat} {I : Nat → Nat → Int32} {J : Nat → Nat → Int64} {R : Nat → Nat → Option Nat} {K : Nat → Nat × Nat} {n : Nat} {a : Nat} (p1 : Nat) (ha : sO G K n a 2) : zC G (d + 1) mX2_init (kc + 1) (ks + 32) [.ref a, .ref p1] (I, J, R, K, n) (fun r h => r = none ∧ h = ctX2 I J R K n a p1) := by
  refine zC.of (by decide) (Nat.le_of_ble_eq_true rfl) ?_
  refine zAload_n 0 0 1 (by decide +kernel) rfl rfl ?_
  refine yObjI 1 4 (by decide +kernel) rfl mlX2_1 (Nat.le_of_ble_eq_true rfl) ?_
  refine zAload_n 0 0 5 (by decide +kernel) rfl rfl ?_
  refine zBipush 32 32 7 (by decide +kernel) rfl (by decide) ?_
  refine yNewI 32 (kc + 0) (ks + 0) 9 (by decide +kernel) rfl (by decide) (by decide) (by decide) (by omega) (by omega) ?_
  refine pf2_1 (v := some (n)) 9 12 (by decide +kernel) rfl flX2_9 rfl rfl (sOn ha) ?_
  refine zAload_n 0 0 13 (by decide +kernel) rfl rfl ?_
  refine zAload_n 1 1 14 (by decide +kernel) rfl rfl ?_
  refine pf2_0 (v := some (p1)) 13 17 (by decide +kernel) rfl flX2_13 rfl rfl (sOn ha) ?_
  exact zVret rfl (by decide +kernel) ⟨rfl, rfl⟩
def ctX12 (G : zG) (I : Nat → Nat → Int32) (J : Nat → Nat → Int64) (R : Nat → Nat → Option Nat) (K : Nat → Nat × Nat) (n a : Nat) : zH :=
  ((zFr (zFr (zFr (zFr (zFr (zFr (zU (zU (zFr (zFr (zFr (zFr (zFr (zFr (zFr (zFr (zFr (zFr (zFr (zFr (zFr (zFr I n 0) (n + 1) 0) (n + 2) 0) (n + 3) 0) (n + 4) 0) (n + 5) 0) (n + 6) 0) (n + 7) 0) (n + 8) 0) (n + 9) 0) (n + 10) 0) (n + 11) 0) (n + 12) 0) (n + 13) 0) a 34 (-1)) a 35 4) (n + 14) 0) (n + 15) 0) (n + 16) 0) (n + 17) 0) (n + 18) 0) (n + 19) 0), (zFr (zFr (zFr (zFr (zFr (zFr (zFr (zFr (zFr (zFr (zFr (zFr (zFr (zFr (zFr (zFr (zFr (zFr (zFr (zFr J n 0) (n + 1) 0) (n + 2) 0) (n + 3) 0) (n + 4) 0) (n + 5) 0) (n + 6) 0) (n + 7) 0) (n + 8) 0) (n + 9) 0) (n + 10) 0) (n + 11) 0) (n + 12) 0) (n + 13) 0) (n + 14) 0) (n + 15) 0) (n + 16) 0) (n + 17) 0) (n + 18) 0) (n + 19) 0), (zU (zFr (zU (zFr (zU (zFr (zU (zFr (zU (zFr (zU (zFr (zU (zFr (zU (zFr (zU (zFr (zU (zFr (zU (zFr (zU (zFr (zU (zFr (zU (zFr (zU (zFr (zU (zFr (zU (zU (zU (zU (zFr (zU (zFr (zU (zFr (zU (zFr R n none) a 1 (some (n))) (n + 1) none) a 2 (some (n + 1))) (n + 2) none) a 3 (some (n + 2))) (n + 3) none) a 4 (some (n + 3))) a 5 (((zU (zFr (zU (zFr (zU (zFr (zU (zFr R n none) a 1 (some (n))) (n + 1) none) a 2 (some (n + 1))) (n + 2) none) a 3 (some (n + 2))) (n + 3) none) a 4 (some (n + 3))) a 1))) a 15 (some (G.2.2.2.1 4))) a 16 (some (G.2.2.2.1 3))) (n + 4) none) a 18 (some (n + 4))) (n + 5) none) a 19 (some (n + 5))) (n + 6) none) a 20 (some (n + 6))) (n + 7) none) a 21 (some (n + 7))) (n + 8) none) a 22 (some (n + 8))) (n + 9) none) a 23 (some (n + 9))) (n + 10) none) a 24 (some (n + 10))) (n + 11) none) a 25 (some (n + 11))) (n + 12) none) a 32 (some (n + 12))) (n + 13) none) a 33 (some (n + 13))) (n + 14) none) a 36 (some (n + 14))) (n + 15) none) a 37 (some (n + 15))) (n + 16) none) a 38 (some (n + 16))) (n + 17) none) a 43 (some (n + 17))) (n + 18) none) a 45 (some (n + 18))) (n + 19) none) a 46 (some (n + 19))), (zKr (zKr (zKr (zKr (zKr (zKr (zKr (zKr (zKr (zKr (zKr (zKr (zKr (zKr (zKr (zKr (zKr (zKr (zKr (zKr K n (33, 240)) (n + 1) (33, 960)) (n + 2) (32, 4)) (n + 3) (32, 128)) (n + 4) (32, 2)) (n + 5) (32, 2)) (n + 6) (32, 12)) (n + 7) (32, 12)) (n + 8) (32, 27)) (n + 9) (32, 27)) (n + 10) (32, 240)) (n + 11) (32, 5)) (n + 12) (32, 231)) (n + 13) (32, 231)) (n + 14) (35, 8191)) (n + 15) (32, 8191)) (n + 16) (32, 9240)) (n + 17) (32, 30)) (n + 18) (32, 6)) (n + 19) (32, 231)), n + 20)
set_option maxHeartbeats 2000000 in
theorem kX12 {G : zG} {d kc ks : Nat} {I : Nat → Nat → Int32} {J : Nat → Nat → Int64} {R : Nat → Nat → Option Nat} {K : Nat → Nat × Nat} {n : Nat} {a : Nat} (ha : sO G K n a 12) : zC G (d + 1) mX12_init (kc + 20) (ks + 28010) [.ref a] (I, J, R, K, n) (fun r h => r = none ∧ h = ctX12 G I J R K n a) := by
  refine zC.of (by decide) (Nat.le_of_ble_eq_true rfl) ?_
  refine zAload_n 0 0 1 (by decide +kernel) rfl rfl ?_
  refine yObjI 3 4 (by decide +kernel) rfl mlX12_3 (Nat.le_of_ble_eq_true rfl) ?_
  refine zAload_n 0 0 5 (by decide +kernel) rfl rfl ?_
  refine zSipush 240 240 8 (by decide +kernel) rfl (by decide) ?_
  refine yNewB 240 (kc + 19) (ks + 27770) 10 (by decide +kernel) rfl (by decide) (by decide) (by decide) (by omega) (by omega) ?_
  refine pf12_1 (v := some (n)) 9 13 (by decide +kernel) rfl flX12_9 rfl rfl (sOn ha) ?_
  refine zAload_n 0 0 14 (by decide +kernel) rfl rfl ?_
  refine zSipush 960 960 17 (by decide +kernel) rfl (by decide) ?_
  refine yNewB 960 (kc + 18) (ks + 26810) 19 (by decide +kernel) rfl (by decide) (by decide) (by decide) (by omega) (by omega) ?_
  refine pf12_2 (v := some (n + 1)) 13 22 (by decide +kernel) rfl flX12_13 rfl rfl (sOn (sOn ha)) ?_
  refine zAload_n 0 0 23 (by decide +kernel) rfl rfl ?_
  refine zIconst 4 4 24 (by decide +kernel) rfl (by decide) ?_
  refine yNewI 4 (kc + 17) (ks + 26806) 26 (by decide +kernel) rfl (by decide) (by decide) (by decide) (by omega) (by omega) ?_
  refine pf12_3 (v := some (n + 2)) 16 29 (by decide +kernel) rfl flX12_16 rfl rfl (sOn (sOn (sOn ha))) ?_
  refine zAload_n 0 0 30 (by decide +kernel) rfl rfl ?_
  refine zSipush 128 128 33 (by decide +kernel) rfl (by decide) ?_
  refine yNewI 128 (kc + 16) (ks + 26678) 35 (by decide +kernel) rfl (by decide) (by decide) (by decide) (by omega) (by omega) ?_
  refine pf12_4 (v := some (n + 3)) 20 38 (by decide +kernel) rfl flX12_20 rfl rfl (sOn (sOn (sOn (sOn ha)))) ?_
  refine zAload_n 0 0 39 (by decide +kernel) rfl rfl ?_
  refine zAload_n 0 0 40 (by decide +kernel) rfl rfl ?_
  refine gn12_1 9 43 (by decide +kernel) rfl flX12_9 (sOn (sOn (sOn (sOn ha)))) ?_
  refine pf12_5 (v := ((zU (zFr (zU (zFr (zU (zFr (zU (zFr R n none) a 1 (some (n))) (n + 1) none) a 2 (some (n + 1))) (n + 2) none) a 3 (some (n + 2))) (n + 3) none) a 4 (some (n + 3))) a 1)) 23 46 (by decide +kernel) rfl flX12_23 (sOn (sOn (sOn (sOn ha)))) ?_
  refine zAload_n 0 0 47 (by decide +kernel) rfl rfl ?_
  refine zLdcS 26 "y" 4 49 (by decide +kernel) rfl (by decide) ?_
  refine pf12_15 (v := some (G.2.2.2.1 4)) 28 52 (by decide +kernel) rfl flX12_28 rfl rfl (sOn (sOn (sOn (sOn ha)))) ?_
  refine zAload_n 0 0 53 (by decide +kernel) rfl rfl ?_
  refine zLdcS 32 "kgnbld" 3 55 (by decide +kernel) rfl (by decide) ?_
  refine pf12_16 (v := some (G.2.2.2.1 3)) 34 58 (by decide +kernel) rfl flX12_34 rfl rfl (sOn (sOn (sOn (sOn ha)))) ?_
  refine zAload_n 0 0 59 (by decide +kernel) rfl rfl ?_
  refine zIconst 2 2 60 (by decide +kernel) rfl (by decide) ?_
  refine yNewI 2 (kc + 15) (ks + 26676) 62 (by decide +kernel) rfl (by decide) (by decide) (by decide) (by omega) (by omega) ?_
  refine pf12_18 (v := some (n + 4)) 37 65 (by decide +kernel) rfl flX12_37 rfl rfl (sOn (sOn (sOn (sOn (sOn ha))))) ?_
  refine zAload_n 0 0 66 (by decide +kernel) rfl rfl ?_
  refine zIconst 2 2 67 (by decide +kernel) rfl (by decide) ?_
  refine yNewI 2 (kc + 14) (ks + 26674) 69 (by decide +kernel) rfl (by decide) (by decide) (by decide) (by omega) (by omega) ?_
  refine pf12_19 (v := some (n + 5)) 40 72 (by decide +kernel) rfl flX12_40 rfl rfl (sOn (sOn (sOn (sOn (sOn (sOn ha)))))) ?_
  refine zAload_n 0 0 73 (by decide +kernel) rfl rfl ?_
  refine zBipush 12 12 75 (by decide +kernel) rfl (by decide) ?_
  refine yNewI 12 (kc + 13) (ks + 26662) 77 (by decide +kernel) rfl (by decide) (by decide) (by decide) (by omega) (by omega) ?_
  refine pf12_20 (v := some (n + 6)) 43 80 (by decide +kernel) rfl flX12_43 rfl rfl (sOn (sOn (sOn (sOn (sOn (sOn (sOn ha))))))) ?_
  refine zAload_n 0 0 81 (by decide +kernel) rfl rfl ?_
  refine zBipush 12 12 83 (by decide +kernel) rfl (by decide) ?_
  refine yNewI 12 (kc + 12) (ks + 26650) 85 (by decide +kernel) rfl (by decide) (by decide) (by decide) (by omega) (by omega) ?_
  refine pf12_21 (v := some (n + 7)) 46 88 (by decide +kernel) rfl flX12_46 rfl rfl (sOn (sOn (sOn (sOn (sOn (sOn (sOn (sOn ha)))))))) ?_
  refine zAload_n 0 0 89 (by decide +kernel) rfl rfl ?_
  refine zBipush 27 27 91 (by decide +kernel) rfl (by decide) ?_
  refine yNewI 27 (kc + 11) (ks + 26623) 93 (by decide +kernel) rfl (by decide) (by decide) (by decide) (by omega) (by omega) ?_
  refine pf12_22 (v := some (n + 8)) 49 96 (by decide +kernel) rfl flX12_49 rfl rfl (sOn (sOn (sOn (sOn (sOn (sOn (sOn (sOn (sOn ha))))))))) ?_
  refine zAload_n 0 0 97 (by decide +kernel) rfl rfl ?_
  refine zBipush 27 27 99 (by decide +kernel) rfl (by decide) ?_
  refine yNewI 27 (kc + 10) (ks + 26596) 101 (by decide +kernel) rfl (by decide) (by decide) (by decide) (by omega) (by omega) ?_
  refine pf12_23 (v := some (n + 9)) 52 104 (by decide +kernel) rfl flX12_52 rfl rfl (sOn (sOn (sOn (sOn (sOn (sOn (sOn (sOn (sOn (sOn ha)))))))))) ?_
  refine zAload_n 0 0 105 (by decide +kernel) rfl rfl ?_
  refine zSipush 240 240 108 (by decide +kernel) rfl (by decide) ?_
  refine yNewI 240 (kc + 9) (ks + 26356) 110 (by decide +kernel) rfl (by decide) (by decide) (by decide) (by omega) (by omega) ?_
  refine pf12_24 (v := some (n + 10)) 55 113 (by decide +kernel) rfl flX12_55 rfl rfl (sOn (sOn (sOn (sOn (sOn (sOn (sOn (sOn (sOn (sOn (sOn ha))))))))))) ?_
  refine zAload_n 0 0 114 (by decide +kernel) rfl rfl ?_
  refine zIconst 5 5 115 (by decide +kernel) rfl (by decide) ?_
  refine yNewI 5 (kc + 8) (ks + 26351) 117 (by decide +kernel) rfl (by decide) (by decide) (by decide) (by omega) (by omega) ?_
  refine pf12_25 (v := some (n + 11)) 58 120 (by decide +kernel) rfl flX12_58 rfl rfl (sOn (sOn (sOn (sOn (sOn (sOn (sOn (sOn (sOn (sOn (sOn (sOn ha)))))))))))) ?_
  refine zAload_n 0 0 121 (by decide +kernel) rfl rfl ?_
  refine zSipush 231 231 124 (by decide +kernel) rfl (by decide) ?_
  refine yNewI 231 (kc + 7) (ks + 26120) 126 (by decide +kernel) rfl (by decide) (by decide) (by decide) (by omega) (by omega) ?_
  refine pf12_32 (v := some (n + 12)) 61 129 (by decide +kernel) rfl flX12_61 rfl rfl (sOn (sOn (sOn (sOn (sOn (sOn (sOn (sOn (sOn (sOn (sOn (sOn (sOn ha))))))))))))) ?_
  refine zAload_n 0 0 130 (by decide +kernel) rfl rfl ?_
  refine zSipush 231 231 133 (by decide +kernel) rfl (by decide) ?_
  refine yNewI 231 (kc + 6) (ks + 25889) 135 (by decide +kernel) rfl (by decide) (by decide) (by decide) (by omega) (by omega) ?_
  refine pf12_33 (v := some (n + 13)) 64 138 (by decide +kernel) rfl flX12_64 rfl rfl (sOn (sOn (sOn (sOn (sOn (sOn (sOn (sOn (sOn (sOn (sOn (sOn (sOn (sOn ha)))))))))))))) ?_
  refine zAload_n 0 0 139 (by decide +kernel) rfl rfl ?_
  refine zIconst (-1) (-1) 140 (by decide +kernel) rfl (by decide) ?_
  refine pf12_34 67 143 (by decide +kernel) rfl flX12_67 (sOn (sOn (sOn (sOn (sOn (sOn (sOn (sOn (sOn (sOn (sOn (sOn (sOn (sOn ha)))))))))))))) ?_
  refine zAload_n 0 0 144 (by decide +kernel) rfl rfl ?_
  refine zIconst 4 4 145 (by decide +kernel) rfl (by decide) ?_
  refine pf12_35 71 148 (by decide +kernel) rfl flX12_71 (sOn (sOn (sOn (sOn (sOn (sOn (sOn (sOn (sOn (sOn (sOn (sOn (sOn (sOn ha)))))))))))))) ?_
  refine zAload_n 0 0 149 (by decide +kernel) rfl rfl ?_
  refine zSipush 8191 8191 152 (by decide +kernel) rfl (by decide) ?_
  refine yNewJ 8191 (kc + 5) (ks + 17698) 154 (by decide +kernel) rfl (by decide) (by decide) (by decide) (by omega) (by omega) ?_
  refine pf12_36 (v := some (n + 14)) 74 157 (by decide +kernel) rfl flX12_74 rfl rfl (sOn (sOn (sOn (sOn (sOn (sOn (sOn (sOn (sOn (sOn (sOn (sOn (sOn (sOn (sOn ha))))))))))))))) ?_
  refine zAload_n 0 0 158 (by decide +kernel) rfl rfl ?_
  refine zSipush 8191 8191 161 (by decide +kernel) rfl (by decide) ?_
  refine yNewI 8191 (kc + 4) (ks + 9507) 163 (by decide +kernel) rfl (by decide) (by decide) (by decide) (by omega) (by omega) ?_
  refine pf12_37 (v := some (n + 15)) 78 166 (by decide +kernel) rfl flX12_78 rfl rfl (sOn (sOn (sOn (sOn (sOn (sOn (sOn (sOn (sOn (sOn (sOn (sOn (sOn (sOn (sOn (sOn ha)))))))))))))))) ?_
  refine zAload_n 0 0 167 (by decide +kernel) rfl rfl ?_
  refine zSipush 9240 9240 170 (by decide +kernel) rfl (by decide) ?_
  refine yNewI 9240 (kc + 3) (ks + 267) 172 (by decide +kernel) rfl (by decide) (by decide) (by decide) (by omega) (by omega) ?_
  refine pf12_38 (v := some (n + 16)) 81 175 (by decide +kernel) rfl flX12_81 rfl rfl (sOn (sOn (sOn (sOn (sOn (sOn (sOn (sOn (sOn (sOn (sOn (sOn (sOn (sOn (sOn (sOn (sOn ha))))))))))))))))) ?_
  refine zAload_n 0 0 176 (by decide +kernel) rfl rfl ?_
  refine zBipush 30 30 178 (by decide +kernel) rfl (by decide) ?_
  refine yNewI 30 (kc + 2) (ks + 237) 180 (by decide +kernel) rfl (by decide) (by decide) (by decide) (by omega) (by omega) ?_
  refine pf12_43 (v := some (n + 17)) 84 183 (by decide +kernel) rfl flX12_84 rfl rfl (sOn (sOn (sOn (sOn (sOn (sOn (sOn (sOn (sOn (sOn (sOn (sOn (sOn (sOn (sOn (sOn (sOn (sOn ha)))))))))))))))))) ?_
  refine zAload_n 0 0 184 (by decide +kernel) rfl rfl ?_
  refine zBipush 6 6 186 (by decide +kernel) rfl (by decide) ?_
  refine yNewI 6 (kc + 1) (ks + 231) 188 (by decide +kernel) rfl (by decide) (by decide) (by decide) (by omega) (by omega) ?_
  refine pf12_45 (v := some (n + 18)) 87 191 (by decide +kernel) rfl flX12_87 rfl rfl (sOn (sOn (sOn (sOn (sOn (sOn (sOn (sOn (sOn (sOn (sOn (sOn (sOn (sOn (sOn (sOn (sOn (sOn (sOn ha))))))))))))))))))) ?_
  refine zAload_n 0 0 192 (by decide +kernel) rfl rfl ?_
  refine zSipush 231 231 195 (by decide +kernel) rfl (by decide) ?_
  refine yNewI 231 (kc + 0) (ks + 0) 197 (by decide +kernel) rfl (by decide) (by decide) (by decide) (by omega) (by omega) ?_
  refine pf12_46 (v := some (n + 19)) 90 200 (by decide +kernel) rfl flX12_90 rfl rfl (sOn (sOn (sOn (sOn (sOn (sOn (sOn (sOn (sOn (sOn (sOn (sOn (sOn (sOn (sOn (sOn (sOn (sOn (sOn (sOn ha)))))))))))))))))))) ?_
  exact zVret rfl (by decide +kernel) ⟨rfl, rfl⟩
