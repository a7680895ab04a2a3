theorem sA_new {G : zG} {K : Nat → Nat × Nat} {n c : Nat} (h : G.1 ≤ n) : sO G (zKr K n (c, 0)) (n + 1) n c := ⟨h, by omega, by rw [zKr_at' rfl]⟩
theorem yAnewL {G : zG} {d kc ks pc : Nat} {M : zM} {ls : List (Nat × Value)} {st : List Value} {I : Nat → Nat → Int32} {J : Nat → Nat → Int64} {R : Nat → Nat → Option Nat} {K : Nat → Nat × Nat} {n : Nat} {Q : Option Value → zH → Prop} {c0 : Int32} (idx N kc' ks' pc' : Nat) (hd : decode M.2.1 pc = .ok (.anewarray idx, 3)) (hn : pc + 3 = pc') (hw : Cond.classLink M.1.cls idx RX2 ∈ lw_tbl) (h0 : ¬ c0 < 0) (hN : c0.toNatClampNeg = N) (hb : N * 4 ≤ 536870912) (hkc : kc' + 1 = kc) (hks : ks' + N = ks) (F : zV G d M kc' ks' pc' ls (.ref n :: st) (zFr I n 0, zFr J n 0, zFr R n none, zKr K n (37, N), n + 1) Q) : zV G d M kc ks pc ls (.int c0 :: st) (I, J, R, K, n) Q := by
  subst hn
  subst hN
  intro p l e Rm s m args below meth c H locs cells slots la X hA hS hc hs hl
  have hz : H.size = n := hA.2.1
  refine W.anew X.1 X.2.1 X.2.2.2.2.2.1 (X.2.2.2.2.2.2.2.1.1 _ _ hw rfl) (va_AO.use X.2.2.2.2.2.2.2.1.2.1.2.1) rfl hd rfl h0 hb (by omega) (by omega) fun cA kA comp f1 f2 f3 f4 => ?_
  have hcA : cA = G.2.2.1 5 := by
    obtain ⟨kB, cB, g1, g2, g3, g4⟩ := (X.2.2.2.2.2.2.2.1.2.2.2.1.2 5 (G.2.2.1 5, .object RX2) rfl).2
    exact Option.some.inj (f1.symm.trans g4)
  subst hcA
  generalize hH1 : H.push ({ cls := G.2.2.1 5, slots := Array.replicate c0.toNatClampNeg .null, vm := .none } : Cell) = H1
  have z1 : H1.size = H.size + 1 := by rw [← hH1, Array.size_push]
  have e1 : H1[H.size]? = some (arrV (G.2.2.1 5) c0.toNatClampNeg (fun _ => .null)) := by rw [← hH1, Array.getElem?_push_size, ← arrV_new]
  have o1 : ∀ q : Nat, q < H.size → H1[q]? = H[q]? := fun q hq => by rw [← hH1, Array.getElem?_push, if_neg (Nat.ne_of_lt hq)]
  have hA1 : zAt G (zNw (I, J, R, K, n) 37 c0.toNatClampNeg) H1 := by
    refine hA.push z1 o1 ?_
    rw [hz, zCell_r (h := zNw (I, J, R, K, n) 37 c0.toNatClampNeg) (kd := 37) (n := c0.toNatClampNeg) (by simp [zNw]) (by decide), ← hz]
    show H1[H.size]? = some (vp_cell _ _)
    rw [e1, vp_cell_q, hz]
    simp only [zNw, zFr_at]
    rfl
  rw [hz]
  exact F p l e Rm s m args below meth c H1 locs (cells + 1) (slots + c0.toNatClampNeg) la X hA1 (zS_push hS (by omega) o1) (by omega) (by omega) hl
theorem yAnewS {G : zG} {d kc ks pc : Nat} {M : zM} {ls : List (Nat × Value)} {st : List Value} {I : Nat → Nat → Int32} {J : Nat → Nat → Int64} {R : Nat → Nat → Option Nat} {K : Nat → Nat × Nat} {n : Nat} {Q : Option Value → zH → Prop} {c0 : Int32} (idx N kc' ks' pc' : Nat) (hd : decode M.2.1 pc = .ok (.anewarray idx, 3)) (hn : pc + 3 = pc') (hw : Cond.classLink M.1.cls idx RX7 ∈ lw_tbl) (h0 : ¬ c0 < 0) (hN : c0.toNatClampNeg = N) (hb : N * 4 ≤ 536870912) (hkc : kc' + 1 = kc) (hks : ks' + N = ks) (F : zV G d M kc' ks' pc' ls (.ref n :: st) (zFr I n 0, zFr J n 0, zFr R n none, zKr K n (38, N), n + 1) Q) : zV G d M kc ks pc ls (.int c0 :: st) (I, J, R, K, n) Q := by
  subst hn
  subst hN
  intro p l e Rm s m args below meth c H locs cells slots la X hA hS hc hs hl
  have hz : H.size = n := hA.2.1
  refine W.anew X.1 X.2.1 X.2.2.2.2.2.1 (X.2.2.2.2.2.2.2.1.1 _ _ hw rfl) (va_AO.use X.2.2.2.2.2.2.2.1.2.1.2.2.1) rfl hd rfl h0 hb (by omega) (by omega) fun cA kA comp f1 f2 f3 f4 => ?_
  have hcA : cA = G.2.2.1 6 := by
    obtain ⟨kB, cB, g1, g2, g3, g4⟩ := (X.2.2.2.2.2.2.2.1.2.2.2.1.2 6 (G.2.2.1 6, .object RX7) rfl).2
    exact Option.some.inj (f1.symm.trans g4)
  subst hcA
  generalize hH1 : H.push ({ cls := G.2.2.1 6, slots := Array.replicate c0.toNatClampNeg .null, vm := .none } : Cell) = H1
  have z1 : H1.size = H.size + 1 := by rw [← hH1, Array.size_push]
  have e1 : H1[H.size]? = some (arrV (G.2.2.1 6) c0.toNatClampNeg (fun _ => .null)) := by rw [← hH1, Array.getElem?_push_size, ← arrV_new]
  have o1 : ∀ q : Nat, q < H.size → H1[q]? = H[q]? := fun q hq => by rw [← hH1, Array.getElem?_push, if_neg (Nat.ne_of_lt hq)]
  have hA1 : zAt G (zNw (I, J, R, K, n) 38 c0.toNatClampNeg) H1 := by
    refine hA.push z1 o1 ?_
    rw [hz, zCell_r (h := zNw (I, J, R, K, n) 38 c0.toNatClampNeg) (kd := 38) (n := c0.toNatClampNeg) (by simp [zNw]) (by decide), ← hz]
    show H1[H.size]? = some (vp_cell _ _)
    rw [e1, vp_cell_q, hz]
    simp only [zNw, zFr_at]
    rfl
  rw [hz]
  exact F p l e Rm s m args below meth c H1 locs (cells + 1) (slots + c0.toNatClampNeg) la X hA1 (zS_push hS (by omega) o1) (by omega) (by omega) hl
set_option maxHeartbeats 4000000 in
theorem qX5 {G : zG} {d kc ks : Nat} {I : Nat → Nat → Int32} {J : Nat → Nat → Int64} {R : Nat → Nat → Option Nat} {K : Nat → Nat × Nat} {a : Nat} (hz : G.1 ≤ a) (hk : K a = (5, 0)) (hI : ∀ j, I a j = 0) (hJ : ∀ j, J a j = 0) (hR : ∀ j, R a j = none) : zC G (d + 2) mX5_init (kc + 8) (ks + 59) [.ref a] (I, J, R, K, a + 1) (fun r h => ∃ I1 J1 R1 K1, r = none ∧ h = (I1, J1, R1, K1, a + 9) ∧ zFm a I I1 J J1 R R1 K K1 ∧ hSet G R1 K1 (a + 9) a (a + 1) ∧ R1 a 1 = none ∧ (∀ b j, a ≤ b → b < a + 9 → I1 b j = 0) ∧ (∀ b j, a ≤ b → b < a + 9 → J1 b j = 0)) := by
  have ha : sO G K (a + 1) a 5 := ⟨hz, by omega, by rw [hk]⟩
  refine zC.of (by decide) (Nat.le_of_ble_eq_true rfl) ?_
  refine zAload_n 0 0 1 (by decide +kernel) rfl rfl ?_
  refine yObjI 1 4 (by decide +kernel) rfl mlX5_1 (Nat.le_of_ble_eq_true rfl) ?_
  refine zAload_n 0 0 5 (by decide +kernel) rfl rfl ?_
  refine yNew10 7 (kc + 7) (ks + 48) 8 (by decide +kernel) rfl clX5_7 (by omega) (by omega) ?_
  refine zDup 9 (by decide +kernel) rfl rfl ?_
  refine zCallIN "FenceYards" mX10_init 9 0 6 42 (kc + 1) (ks + 6) 12 [] [.ref (a + 1), .ref a] okX10_init (by decide +kernel) imX10_init rfl rfl (by decide +kernel) rfl rfl (Nat.le_of_ble_eq_true rfl) (by omega) (by omega) (zC.mono (kX10 (kc := 0) (ks := 0) (sA_new (c := 10) (by omega))) ?_)
  rintro _ _ ⟨rfl, rfl⟩
  obtain ⟨I1, J1, R1, K1, hh, fm, sh, z1, z2, z3, z4⟩ := fX10 (G := G) (I := zFr I (a + 1) 0) (J := zFr J (a + 1) 0) (R := zFr R (a + 1) none) (K := zKr K (a + 1) (10, 0)) (a := a + 1) (by omega) (zKr_at' rfl) (fun j => by rw [zFr_at' rfl])
  rw [hh]
  have ha1 : sO G K1 (a + 1 + 1 + 6) a 5 := sO.mono (sOn (p := (10, 0)) ha) (fun b hb => fm.2.2.2 b (by omega)) (by omega)
  change zV G (d + 2) mX5_init (kc + 1) (ks + 6) 12 [(0, .ref a)] [.ref (a + 1), .ref a] (I1, J1, R1, K1, a + 8) _
  refine pf5_0 (v := some (a + 1)) 10 15 (by decide +kernel) rfl flX5_10 ha1 ?_
  refine zAload_n 0 0 16 (by decide +kernel) rfl rfl ?_
  refine zNull 17 (by decide +kernel) rfl ?_
  refine pf5_1 (v := none) 16 20 (by decide +kernel) rfl flX5_16 ha1 ?_
  refine zAload_n 0 0 21 (by decide +kernel) rfl rfl ?_
  refine zBipush 6 6 23 (by decide +kernel) rfl (by decide) ?_
  refine yNewI 6 kc ks 25 (by decide +kernel) rfl (by decide) (by decide) (by decide) (by omega) (by omega) ?_
  refine pf5_2 (v := some (a + 8)) 20 28 (by decide +kernel) rfl flX5_20 rfl rfl (sOn ha1) ?_
  refine zVret rfl (by decide +kernel) ⟨_, _, _, _, rfl, rfl, ⟨fun b hb => ?_, fun b hb => ?_, fun b hb => ?_, fun b hb => ?_⟩, ⟨sOn ha1, ?_, ?_, ?_, ⟨by omega, by omega, zKr_at' rfl⟩⟩, ?_, fun b j h1 h2 => ?_, fun b j h1 h2 => ?_⟩
  · rw [zFr_off (by omega), fm.1 b (by omega), zFr_off (by omega)]
  · rw [zFr_off (by omega), fm.2.1 b (by omega), zFr_off (by omega)]
  · rw [zU_off (by omega), zFr_off (by omega), zU_off (by omega), zU_off (by omega), fm.2.2.1 b (by omega), zFr_off (by omega)]
  · rw [zKr_off (by omega), fm.2.2.2 b (by omega), zKr_off (by omega)]
  · rw [zU_a, if_neg (by decide), zFr_off (by omega), zU_a, if_neg (by decide), zU_a, if_pos rfl]
  · refine Vil_mono (y := a) (R := R1) (K := K1) (n := a + 8) sh (fun b hb => zKr_off (by omega)) (fun b hb hne => by rw [zU_off hne, zFr_off (by omega), zU_off hne, zU_off hne]) (by omega) (by omega)
  · rw [zU_a, if_pos rfl]
  · rw [zU_a, if_neg (by decide), zFr_off (by omega), zU_a, if_pos rfl]
  · by_cases e8 : b = a + 8
    · rw [zFr_at' e8]
    · rw [zFr_off e8]
      by_cases e0 : b = a
      · subst e0
        rw [fm.1 b (by omega), zFr_off (by omega), hI]
      · by_cases e1 : b = a + 1
        · subst e1
          exact z2 j
        · exact z1 b j (by omega) (by omega)
  · by_cases e8 : b = a + 8
    · rw [zFr_at' e8]
    · rw [zFr_off e8]
      by_cases e0 : b = a
      · subst e0
        rw [fm.2.1 b (by omega), zFr_off (by omega), hJ]
      · by_cases e1 : b = a + 1
        · subst e1
          exact z4 j (by rw [zFr_at' rfl])
        · exact z3 b j (by omega) (by omega)
