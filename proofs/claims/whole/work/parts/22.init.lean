set_option maxHeartbeats 8000000 in
theorem qX11 {G : zG} {d kc ks : Nat} {I0 : Nat → Nat → Int32} {J0 : Nat → Nat → Int64} {R0 : Nat → Nat → Option Nat} {K0 : Nat → Nat × Nat} {x : Nat} (hz : G.1 ≤ x) (hk : K0 x = (11, 0)) : zC G (d + 3) mX11_init (kc + 111) (ks + 3615) [.ref x] (I0, J0, R0, K0, x + 1) (fun r h => ∃ I1 J1 R1 K1, r = none ∧ h = (I1, J1, R1, K1, x + 112) ∧ zFm x I0 I1 J0 J1 R0 R1 K0 K1 ∧ hX G R1 K1 (x + 112) x (x + 4) (x + 101) (x + 108) ∧ (∀ b j, x < b → b < x + 112 → I1 b j = if b = x + 80 ∧ j < 3 then -1 else 0) ∧ (∀ b j, x < b → b < x + 112 → J1 b j = 0) ∧ I1 x 13 = 0 ∧ I1 x 14 = 0 ∧ I1 x 15 = -1 ∧ I1 x 16 = 4 ∧ J1 x 17 = 0 ∧ R1 (x + 3) 1 = none ∧ (∀ j, R1 (x + 99) j = none) ∧ (∀ j, R1 (x + 100) j = none) ∧ True) := by
  have hob0 : sO G K0 (x + 1) x 11 := ⟨hz, by omega, by rw [hk]⟩
  refine zC.of (by decide) (Nat.le_of_ble_eq_true rfl) ?_
  refine zAload_n 0 0 1 (by decide +kernel) rfl rfl ?_
  refine yObjI 1 4 (by decide +kernel) rfl mlX11_1 (Nat.le_of_ble_eq_true rfl) ?_
  refine zAload_n 0 0 5 (by decide +kernel) rfl rfl ?_
  refine yNew9 7 (kc + 110) (ks + 3612) 8 (by decide +kernel) rfl clX11_7 (by omega) (by omega) ?_
  refine zDup 9 (by decide +kernel) rfl rfl ?_
  refine zCallIN "FenceYards" mX9_init 9 0 1 240 (kc + 109) (ks + 3372) 12 [] [.ref (x + 1), .ref x] okX9_init (by decide +kernel) imX9_init rfl rfl (by decide +kernel) rfl rfl (Nat.le_of_ble_eq_true rfl) (by omega) (by omega) (zC.mono (kX9 (kc := 0) (ks := 0)  (sA_new (c := 9) (by omega))) ?_)
  rintro _ _ ⟨rfl, rfl⟩
  obtain ⟨I1, J1, Ra, K1, hh, fm, sh, z1, z2, z3, z4⟩ := fX9 (G := G) (I := zFr I0 (x + 1) 0) (J := zFr J0 (x + 1) 0) (R := zFr R0 (x + 1) none) (K := zKr K0 (x + 1) (9, 0)) (a := x + 1)  (by omega) (zKr_at' rfl) (fun j => by rw [zFr_at' rfl])
  rw [hh]
  clear hh
  have zi1 : ∀ b j, x + 1 ≤ b → b < x + 3 → I1 b j = 0 := fun b j h1 h2 => by
    by_cases q : b = x + 1
    · subst q; exact z2 j
    · exact z1 b j (by omega) (by omega)
  have zj1 : ∀ b j, x + 1 ≤ b → b < x + 3 → J1 b j = 0 := fun b j h1 h2 => by
    by_cases q : b = x + 1
    · subst q; exact z4 j (by rw [zFr_at' rfl])
    · exact z3 b j (by omega) (by omega)
  clear z1 z2 z3 z4
  have hob1 : sO G K1 (x + 3) x 11 := sO.mono (sOn (p := (9, 0)) hob0) (fun b hb => fm.2.2.2 b (by omega)) (by omega)
  have hI1 : ∀ b, b < x + 1 → I1 b = I0 b := fun b hb => by rw [fm.1 b hb, zFr_off (by omega)]
  have hJ1 : ∀ b, b < x + 1 → J1 b = J0 b := fun b hb => by rw [fm.2.1 b hb, zFr_off (by omega)]
  have hRa : ∀ b, b < x + 1 → Ra b = R0 b := fun b hb => by rw [fm.2.2.1 b hb, zFr_off (by omega)]
  have hK1 : ∀ b, b < x + 1 → K1 b = K0 b := fun b hb => by rw [fm.2.2.2 b (by omega), zKr_off (by omega)]
  clear fm
  change zV G (d + 3) mX11_init (kc + 109) (ks + 3372) 12 [(0, .ref x)] [.ref (x + 1), .ref x] (I1, J1, Ra, K1, x + 3) _
  refine pf11_0 (v := some (x + 1)) 10 15 (by decide +kernel) rfl flX11_10 rfl rfl hob1 ?_
  obtain ⟨R1, eR1⟩ : ∃ z, z = zU Ra x 0 (some (x + 1)) := ⟨_, rfl⟩
  rw [← eR1]
  have hR1 : ∀ b, b < x + 1 → b ≠ x → R1 b = R0 b := fun b hb hne => by rw [eR1, zU_off hne, hRa b hb]
  have hX1 : ∀ j, R1 x j = if j = 0 then some (x + 1) else R0 x j := fun j => by rw [eR1, zU_a, hRa x (by omega)]
  have sh1 : hTape G R1 K1 (x + 3) (x + 1) := Tape_mono (y := x) sh (fun b hb => rfl) (fun b hb hne => by rw [eR1]; exact zU_off hne) (Nat.le_refl _) (by omega)
  clear hRa sh
  clear eR1 Ra
  refine zAload_n 0 0 16 (by decide +kernel) rfl rfl ?_
  refine yNew5 16 (kc + 108) (ks + 3369) 19 (by decide +kernel) rfl clX11_16 (by omega) (by omega) ?_
  refine zDup 20 (by decide +kernel) rfl rfl ?_
  refine zCallIN "FenceYards" mX5_init 18 0 8 59 (kc + 100) (ks + 3310) 23 [] [.ref (x + 3), .ref x] okX5_init (by decide +kernel) imX5_init rfl rfl (by decide +kernel) rfl rfl (Nat.le_of_ble_eq_true rfl) (by omega) (by omega) (zC.mono (qX5 (kc := 0) (ks := 0) (G := G) (I := zFr I1 (x + 3) 0) (J := zFr J1 (x + 3) 0) (R := zFr R1 (x + 3) none) (K := zKr K1 (x + 3) (5, 0)) (a := x + 3) (by omega) (zKr_at' rfl) (fun j => by rw [zFr_at' rfl]) (fun j => by rw [zFr_at' rfl]) (fun j => by rw [zFr_at' rfl])) ?_)
  rintro _ _ ⟨I2, J2, Ra, K2, rfl, rfl, fm, sh, zl, zi2, zj2⟩
  have hob2 : sO G K2 (x + 12) x 11 := sO.mono (sOn (p := (5, 0)) hob1) (fun b hb => fm.2.2.2 b (by omega)) (by omega)
  have hI2 : ∀ b, b < x + 3 → I2 b = I1 b := fun b hb => by rw [fm.1 b hb, zFr_off (by omega)]
  have hJ2 : ∀ b, b < x + 3 → J2 b = J1 b := fun b hb => by rw [fm.2.1 b hb, zFr_off (by omega)]
  have hRa : ∀ b, b < x + 3 → Ra b = R1 b := fun b hb => by rw [fm.2.2.1 b hb, zFr_off (by omega)]
  have hK2 : ∀ b, b < x + 3 → K2 b = K1 b := fun b hb => by rw [fm.2.2.2 b (by omega), zKr_off (by omega)]
  clear fm
  change zV G (d + 3) mX11_init (kc + 100) (ks + 3310) 23 [(0, .ref x)] [.ref (x + 3), .ref x] (I2, J2, Ra, K2, x + 12) _
  refine pf11_1 (v := some (x + 3)) 19 26 (by decide +kernel) rfl flX11_19 rfl rfl hob2 ?_
  obtain ⟨R2, eR2⟩ : ∃ z, z = zU Ra x 1 (some (x + 3)) := ⟨_, rfl⟩
  rw [← eR2]
  have hR2 : ∀ b, b < x + 3 → b ≠ x → R2 b = R1 b := fun b hb hne => by rw [eR2, zU_off hne, hRa b hb]
  have hX2 : ∀ j, R2 x j = if j = 1 then some (x + 3) else R1 x j := fun j => by rw [eR2, zU_a, hRa x (by omega)]
  have sh2 : hSet G R2 K2 (x + 12) (x + 3) (x + 4) := Set_mono (y := x) sh (fun b hb => rfl) (fun b hb hne => by rw [eR2]; exact zU_off hne) (Nat.le_refl _) (by omega) (by omega)
  have zl2 : R2 (x + 3) 1 = none := by rw [eR2, zU_off (by omega)]; exact zl
  clear zl
  clear hRa sh
  clear eR2 Ra
  refine zAload_n 0 0 27 (by decide +kernel) rfl rfl ?_
  refine yNew8 23 (kc + 99) (ks + 3296) 30 (by decide +kernel) rfl clX11_23 (by omega) (by omega) ?_
  refine zDup 31 (by decide +kernel) rfl rfl ?_
  refine zAload_n 0 0 32 (by decide +kernel) rfl rfl ?_
  refine gf11_1 19 35 (by decide +kernel) rfl flX11_19 (sOn hob2) (b := x + 3) (by rw [zFr_off (by omega), hX2, if_pos rfl]) ?_
  refine zCallI mX8_init 25 1 7 95 (kc + 92) (ks + 3201) 38 [.ref (x + 3)] [.ref (x + 12), .ref x] okX8_init mlX11_25 imX8_init rfl rfl (by decide +kernel) rfl rfl (Nat.le_of_ble_eq_true rfl) (by omega) (by omega) (zC.mono (kX8 (kc := 0) (ks := 0) (p1 := x + 3) (sA_new (c := 8) (by omega))) ?_)
  rintro _ _ ⟨rfl, rfl⟩
  obtain ⟨I3, J3, Ra, K3, hh, fm, sh, z1, z2, z3, z4⟩ := fX8 (G := G) (I := zFr I2 (x + 12) 0) (J := zFr J2 (x + 12) 0) (R := zFr R2 (x + 12) none) (K := zKr K2 (x + 12) (8, 0)) (a := x + 12) (p1 := x + 3) (by omega) (zKr_at' rfl) (fun j => by rw [zFr_at' rfl])
  rw [hh]
  clear hh
  have zi3 : ∀ b j, x + 12 ≤ b → b < x + 20 → I3 b j = 0 := fun b j h1 h2 => by
    by_cases q : b = x + 12
    · subst q; exact z2 j
    · exact z1 b j (by omega) (by omega)
  have zj3 : ∀ b j, x + 12 ≤ b → b < x + 20 → J3 b j = 0 := fun b j h1 h2 => by
    by_cases q : b = x + 12
    · subst q; exact z4 j (by rw [zFr_at' rfl])
    · exact z3 b j (by omega) (by omega)
  clear z1 z2 z3 z4
  have hob3 : sO G K3 (x + 20) x 11 := sO.mono (sOn (p := (8, 0)) hob2) (fun b hb => fm.2.2.2 b (by omega)) (by omega)
  have hI3 : ∀ b, b < x + 12 → I3 b = I2 b := fun b hb => by rw [fm.1 b hb, zFr_off (by omega)]
  have hJ3 : ∀ b, b < x + 12 → J3 b = J2 b := fun b hb => by rw [fm.2.1 b hb, zFr_off (by omega)]
  have hRa : ∀ b, b < x + 12 → Ra b = R2 b := fun b hb => by rw [fm.2.2.1 b hb, zFr_off (by omega)]
  have hK3 : ∀ b, b < x + 12 → K3 b = K2 b := fun b hb => by rw [fm.2.2.2 b (by omega), zKr_off (by omega)]
  clear fm
  change zV G (d + 3) mX11_init (kc + 92) (ks + 3201) 38 [(0, .ref x)] [.ref (x + 12), .ref x] (I3, J3, Ra, K3, x + 20) _
  refine pf11_2 (v := some (x + 12)) 28 41 (by decide +kernel) rfl flX11_28 rfl rfl hob3 ?_
  obtain ⟨R3, eR3⟩ : ∃ z, z = zU Ra x 2 (some (x + 12)) := ⟨_, rfl⟩
  rw [← eR3]
  have hR3 : ∀ b, b < x + 12 → b ≠ x → R3 b = R2 b := fun b hb hne => by rw [eR3, zU_off hne, hRa b hb]
  have hX3 : ∀ j, R3 x j = if j = 2 then some (x + 12) else R2 x j := fun j => by rw [eR3, zU_a, hRa x (by omega)]
  obtain ⟨o0, o1, o2, o3, o4, o5, o6, o7, o8, o9, o10, o11, o12, o13, o15, o16⟩ := sh
  have sha : hSt G Ra K3 (x + 20) (x + 12) (x + 3) (x + 4) := ⟨o0, o1, o2, o3, o4, o5, o6, o7, o8, o9, o10, o11, o12, o13, Set_mono (y := x) sh2 (fun b hb => by rw [hK3 b (by omega)]) (fun b hb hne => by rw [hRa b (by omega)]) (by omega) (by omega) (by omega), o15, o16⟩
  have sh3 : hSt G R3 K3 (x + 20) (x + 12) (x + 3) (x + 4) := St_mono (y := x) sha (fun b hb => rfl) (fun b hb hne => by rw [eR3]; exact zU_off hne) (Nat.le_refl _) (by omega) (by omega) (by omega)
  clear sha o0 o1 o2 o3 o4 o5 o6 o7 o8 o9 o10 o11 o12 o13 o15 o16
  clear hRa
  clear eR3 Ra
  refine zAload_n 0 0 42 (by decide +kernel) rfl rfl ?_
  refine yNew8 23 (kc + 91) (ks + 3187) 45 (by decide +kernel) rfl clX11_23 (by omega) (by omega) ?_
  refine zDup 46 (by decide +kernel) rfl rfl ?_
  refine zAload_n 0 0 47 (by decide +kernel) rfl rfl ?_
  refine gf11_1 19 50 (by decide +kernel) rfl flX11_19 (sOn hob3) (b := x + 3) (by rw [zFr_off (by omega), hX3, if_neg (by decide), hX2, if_pos rfl]) ?_
  refine zCallI mX8_init 25 1 7 95 (kc + 84) (ks + 3092) 53 [.ref (x + 3)] [.ref (x + 20), .ref x] okX8_init mlX11_25 imX8_init rfl rfl (by decide +kernel) rfl rfl (Nat.le_of_ble_eq_true rfl) (by omega) (by omega) (zC.mono (kX8 (kc := 0) (ks := 0) (p1 := x + 3) (sA_new (c := 8) (by omega))) ?_)
  rintro _ _ ⟨rfl, rfl⟩
  obtain ⟨I4, J4, Ra, K4, hh, fm, sh, z1, z2, z3, z4⟩ := fX8 (G := G) (I := zFr I3 (x + 20) 0) (J := zFr J3 (x + 20) 0) (R := zFr R3 (x + 20) none) (K := zKr K3 (x + 20) (8, 0)) (a := x + 20) (p1 := x + 3) (by omega) (zKr_at' rfl) (fun j => by rw [zFr_at' rfl])
  rw [hh]
  clear hh
  have zi4 : ∀ b j, x + 20 ≤ b → b < x + 28 → I4 b j = 0 := fun b j h1 h2 => by
    by_cases q : b = x + 20
    · subst q; exact z2 j
    · exact z1 b j (by omega) (by omega)
  have zj4 : ∀ b j, x + 20 ≤ b → b < x + 28 → J4 b j = 0 := fun b j h1 h2 => by
    by_cases q : b = x + 20
    · subst q; exact z4 j (by rw [zFr_at' rfl])
    · exact z3 b j (by omega) (by omega)
  clear z1 z2 z3 z4
  have hob4 : sO G K4 (x + 28) x 11 := sO.mono (sOn (p := (8, 0)) hob3) (fun b hb => fm.2.2.2 b (by omega)) (by omega)
  have hI4 : ∀ b, b < x + 20 → I4 b = I3 b := fun b hb => by rw [fm.1 b hb, zFr_off (by omega)]
  have hJ4 : ∀ b, b < x + 20 → J4 b = J3 b := fun b hb => by rw [fm.2.1 b hb, zFr_off (by omega)]
  have hRa : ∀ b, b < x + 20 → Ra b = R3 b := fun b hb => by rw [fm.2.2.1 b hb, zFr_off (by omega)]
  have hK4 : ∀ b, b < x + 20 → K4 b = K3 b := fun b hb => by rw [fm.2.2.2 b (by omega), zKr_off (by omega)]
  clear fm
  change zV G (d + 3) mX11_init (kc + 84) (ks + 3092) 53 [(0, .ref x)] [.ref (x + 20), .ref x] (I4, J4, Ra, K4, x + 28) _
  refine pf11_3 (v := some (x + 20)) 32 56 (by decide +kernel) rfl flX11_32 rfl rfl hob4 ?_
  obtain ⟨R4, eR4⟩ : ∃ z, z = zU Ra x 3 (some (x + 20)) := ⟨_, rfl⟩
  rw [← eR4]
  have hR4 : ∀ b, b < x + 20 → b ≠ x → R4 b = R3 b := fun b hb hne => by rw [eR4, zU_off hne, hRa b hb]
  have hX4 : ∀ j, R4 x j = if j = 3 then some (x + 20) else R3 x j := fun j => by rw [eR4, zU_a, hRa x (by omega)]
  obtain ⟨o0, o1, o2, o3, o4, o5, o6, o7, o8, o9, o10, o11, o12, o13, o15, o16⟩ := sh
  have sha : hSt G Ra K4 (x + 28) (x + 20) (x + 3) (x + 4) := ⟨o0, o1, o2, o3, o4, o5, o6, o7, o8, o9, o10, o11, o12, o13, Set_mono (y := x) sh2 (fun b hb => by rw [hK4 b (by omega), hK3 b (by omega)]) (fun b hb hne => by rw [hRa b (by omega), hR3 b (by omega) hne]) (by omega) (by omega) (by omega), o15, o16⟩
  have sh4 : hSt G R4 K4 (x + 28) (x + 20) (x + 3) (x + 4) := St_mono (y := x) sha (fun b hb => rfl) (fun b hb hne => by rw [eR4]; exact zU_off hne) (Nat.le_refl _) (by omega) (by omega) (by omega)
  clear sha o0 o1 o2 o3 o4 o5 o6 o7 o8 o9 o10 o11 o12 o13 o15 o16
  clear hRa
  clear eR4 Ra
  refine zAload_n 0 0 57 (by decide +kernel) rfl rfl ?_
  refine yNew1 35 (kc + 83) (ks + 3085) 60 (by decide +kernel) rfl clX11_35 (by omega) (by omega) ?_
  refine zDup 61 (by decide +kernel) rfl rfl ?_
  refine zCallIN "FenceYards" mX1_init 37 0 51 2627 (kc + 32) (ks + 458) 64 [] [.ref (x + 28), .ref x] okX1_init (by decide +kernel) imX1_init rfl rfl (by decide +kernel) rfl rfl (Nat.le_of_ble_eq_true rfl) (by omega) (by omega) (zC.mono (kX1 (kc := 0) (ks := 0)  (sA_new (c := 1) (by omega))) ?_)
  rintro _ _ ⟨rfl, rfl⟩
  obtain ⟨I5, J5, Ra, K5, hh, fm, sh, z1, z2, z3, z4⟩ := fX1 (G := G) (I := zFr I4 (x + 28) 0) (J := zFr J4 (x + 28) 0) (R := zFr R4 (x + 28) none) (K := zKr K4 (x + 28) (1, 0)) (a := x + 28)  (by omega) (zKr_at' rfl) (fun j => by rw [zFr_at' rfl])
  rw [hh]
  clear hh
  have zi5 : ∀ b j, x + 28 ≤ b → b < x + 80 → I5 b j = 0 := fun b j h1 h2 => by
    by_cases q : b = x + 28
    · subst q; exact z2 j
    · exact z1 b j (by omega) (by omega)
  have zj5 : ∀ b j, x + 28 ≤ b → b < x + 80 → J5 b j = 0 := fun b j h1 h2 => by
    by_cases q : b = x + 28
    · subst q; exact z4 j (by rw [zFr_at' rfl])
    · exact z3 b j (by omega) (by omega)
  clear z1 z2 z3 z4
  have hob5 : sO G K5 (x + 80) x 11 := sO.mono (sOn (p := (1, 0)) hob4) (fun b hb => fm.2.2.2 b (by omega)) (by omega)
  have hI5 : ∀ b, b < x + 28 → I5 b = I4 b := fun b hb => by rw [fm.1 b hb, zFr_off (by omega)]
  have hJ5 : ∀ b, b < x + 28 → J5 b = J4 b := fun b hb => by rw [fm.2.1 b hb, zFr_off (by omega)]
  have hRa : ∀ b, b < x + 28 → Ra b = R4 b := fun b hb => by rw [fm.2.2.1 b hb, zFr_off (by omega)]
  have hK5 : ∀ b, b < x + 28 → K5 b = K4 b := fun b hb => by rw [fm.2.2.2 b (by omega), zKr_off (by omega)]
  clear fm
  change zV G (d + 3) mX11_init (kc + 32) (ks + 458) 64 [(0, .ref x)] [.ref (x + 28), .ref x] (I5, J5, Ra, K5, x + 80) _
  refine pf11_4 (v := some (x + 28)) 38 67 (by decide +kernel) rfl flX11_38 rfl rfl hob5 ?_
  obtain ⟨R5, eR5⟩ : ∃ z, z = zU Ra x 4 (some (x + 28)) := ⟨_, rfl⟩
  rw [← eR5]
  have hR5 : ∀ b, b < x + 28 → b ≠ x → R5 b = R4 b := fun b hb hne => by rw [eR5, zU_off hne, hRa b hb]
  have hX5 : ∀ j, R5 x j = if j = 4 then some (x + 28) else R4 x j := fun j => by rw [eR5, zU_a, hRa x (by omega)]
  have sh5 : hHis G R5 K5 (x + 80) (x + 28) := His_mono (y := x) sh (fun b hb => rfl) (fun b hb hne => by rw [eR5]; exact zU_off hne) (Nat.le_refl _) (by omega) (by omega) (by omega) (by omega)
  clear hRa sh
  clear eR5 Ra
  refine zAload_n 0 0 68 (by decide +kernel) rfl rfl ?_
  refine yNew4 42 (kc + 31) (ks + 450) 71 (by decide +kernel) rfl clX11_42 (by omega) (by omega) ?_
  refine zDup 72 (by decide +kernel) rfl rfl ?_
  refine zAload_n 0 0 73 (by decide +kernel) rfl rfl ?_
  refine gf11_3 32 76 (by decide +kernel) rfl flX11_32 (sOn hob5) (b := x + 20) (by rw [zFr_off (by omega), hX5, if_neg (by decide), hX4, if_pos rfl]) ?_
  refine zCallI mX4_init 44 1 1 9 (kc + 30) (ks + 441) 79 [.ref (x + 20)] [.ref (x + 80), .ref x] okX4_init mlX11_44 imX4_init rfl rfl (by decide +kernel) rfl rfl (Nat.le_of_ble_eq_true rfl) (by omega) (by omega) (zC.mono (kX4 (kc := 0) (ks := 0) (p1 := x + 20) (sA_new (c := 4) (by omega))) ?_)
  rintro _ _ ⟨rfl, rfl⟩
  obtain ⟨I6, J6, Ra, K6, hh, fm, sh, z1, z2, z3, z4⟩ := fX4 (G := G) (I := zFr I5 (x + 80) 0) (J := zFr J5 (x + 80) 0) (R := zFr R5 (x + 80) none) (K := zKr K5 (x + 80) (4, 0)) (a := x + 80) (p1 := x + 20) (by omega) (zKr_at' rfl) (fun j => by rw [zFr_at' rfl])
  rw [hh]
  clear hh
  have zi6 : ∀ b j, x + 80 ≤ b → b < x + 82 → I6 b j = if b = x + 80 ∧ j < 3 then -1 else 0 := fun b j h1 h2 => by
    by_cases q : b = x + 80
    · subst q
      by_cases j0 : j = 0
      · subst j0; rw [if_pos (by omega)]; exact z2.1
      · by_cases j1 : j = 1
        · subst j1; rw [if_pos (by omega)]; exact z2.2.1
        · by_cases j2 : j = 2
          · subst j2; rw [if_pos (by omega)]; exact z2.2.2.1
          · rw [if_neg (by omega)]; exact z2.2.2.2 j j0 j1 j2
    · rw [if_neg (by omega)]; exact z1 b j (by omega) (by omega)
  have zj6 : ∀ b j, x + 80 ≤ b → b < x + 82 → J6 b j = 0 := fun b j h1 h2 => by
    by_cases q : b = x + 80
    · subst q; exact z4 j (by rw [zFr_at' rfl])
    · exact z3 b j (by omega) (by omega)
  clear z1 z2 z3 z4
  have hob6 : sO G K6 (x + 82) x 11 := sO.mono (sOn (p := (4, 0)) hob5) (fun b hb => fm.2.2.2 b (by omega)) (by omega)
  have hI6 : ∀ b, b < x + 80 → I6 b = I5 b := fun b hb => by rw [fm.1 b hb, zFr_off (by omega)]
  have hJ6 : ∀ b, b < x + 80 → J6 b = J5 b := fun b hb => by rw [fm.2.1 b hb, zFr_off (by omega)]
  have hRa : ∀ b, b < x + 80 → Ra b = R5 b := fun b hb => by rw [fm.2.2.1 b hb, zFr_off (by omega)]
  have hK6 : ∀ b, b < x + 80 → K6 b = K5 b := fun b hb => by rw [fm.2.2.2 b (by omega), zKr_off (by omega)]
  clear fm
  change zV G (d + 3) mX11_init (kc + 30) (ks + 441) 79 [(0, .ref x)] [.ref (x + 80), .ref x] (I6, J6, Ra, K6, x + 82) _
  refine pf11_5 (v := some (x + 80)) 47 82 (by decide +kernel) rfl flX11_47 rfl rfl hob6 ?_
  obtain ⟨R6, eR6⟩ : ∃ z, z = zU Ra x 5 (some (x + 80)) := ⟨_, rfl⟩
  rw [← eR6]
  have hR6 : ∀ b, b < x + 80 → b ≠ x → R6 b = R5 b := fun b hb hne => by rw [eR6, zU_off hne, hRa b hb]
  have hX6 : ∀ j, R6 x j = if j = 5 then some (x + 80) else R5 x j := fun j => by rw [eR6, zU_a, hRa x (by omega)]
  obtain ⟨o0, o1, o3, o4⟩ := sh
  have sha : hSea G Ra K6 (x + 82) (x + 80) (x + 20) (x + 3) (x + 4) := ⟨o0, o1, St_mono (y := x) sh4 (fun b hb => by rw [hK6 b (by omega), hK5 b (by omega)]) (fun b hb hne => by rw [hRa b (by omega), hR5 b (by omega) hne]) (by omega) (by omega) (by omega) (by omega), o3, o4⟩
  have sh6 : hSea G R6 K6 (x + 82) (x + 80) (x + 20) (x + 3) (x + 4) := Sea_mono (y := x) sha (fun b hb => rfl) (fun b hb hne => by rw [eR6]; exact zU_off hne) (Nat.le_refl _) (by omega) (by omega) (by omega) (by omega)
  clear sha o0 o1 o3 o4
  clear hRa
  clear eR6 Ra
  refine zAload_n 0 0 83 (by decide +kernel) rfl rfl ?_
  refine yNew6 51 (kc + 29) (ks + 435) 86 (by decide +kernel) rfl clX11_51 (by omega) (by omega) ?_
  refine zDup 87 (by decide +kernel) rfl rfl ?_
  refine zAload_n 0 0 88 (by decide +kernel) rfl rfl ?_
  refine gf11_3 32 91 (by decide +kernel) rfl flX11_32 (sOn hob6) (b := x + 20) (by rw [zFr_off (by omega), hX6, if_neg (by decide), hX5, if_neg (by decide), hX4, if_pos rfl]) ?_
  refine zCallI mX6_init 53 1 4 40 (kc + 25) (ks + 395) 94 [.ref (x + 20)] [.ref (x + 82), .ref x] okX6_init mlX11_53 imX6_init rfl rfl (by decide +kernel) rfl rfl (Nat.le_of_ble_eq_true rfl) (by omega) (by omega) (zC.mono (kX6 (kc := 0) (ks := 0) (p1 := x + 20) (sA_new (c := 6) (by omega))) ?_)
  rintro _ _ ⟨rfl, rfl⟩
  obtain ⟨I7, J7, Ra, K7, hh, fm, sh, z1, z2, z3, z4⟩ := fX6 (G := G) (I := zFr I6 (x + 82) 0) (J := zFr J6 (x + 82) 0) (R := zFr R6 (x + 82) none) (K := zKr K6 (x + 82) (6, 0)) (a := x + 82) (p1 := x + 20) (by omega) (zKr_at' rfl) (fun j => by rw [zFr_at' rfl])
  rw [hh]
  clear hh
  have zi7 : ∀ b j, x + 82 ≤ b → b < x + 87 → I7 b j = 0 := fun b j h1 h2 => by
    by_cases q : b = x + 82
    · subst q; exact z2 j
    · exact z1 b j (by omega) (by omega)
  have zj7 : ∀ b j, x + 82 ≤ b → b < x + 87 → J7 b j = 0 := fun b j h1 h2 => by
    by_cases q : b = x + 82
    · subst q; exact z4 j (by rw [zFr_at' rfl])
    · exact z3 b j (by omega) (by omega)
  clear z1 z2 z3 z4
  have hob7 : sO G K7 (x + 87) x 11 := sO.mono (sOn (p := (6, 0)) hob6) (fun b hb => fm.2.2.2 b (by omega)) (by omega)
  have hI7 : ∀ b, b < x + 82 → I7 b = I6 b := fun b hb => by rw [fm.1 b hb, zFr_off (by omega)]
  have hJ7 : ∀ b, b < x + 82 → J7 b = J6 b := fun b hb => by rw [fm.2.1 b hb, zFr_off (by omega)]
  have hRa : ∀ b, b < x + 82 → Ra b = R6 b := fun b hb => by rw [fm.2.2.1 b hb, zFr_off (by omega)]
  have hK7 : ∀ b, b < x + 82 → K7 b = K6 b := fun b hb => by rw [fm.2.2.2 b (by omega), zKr_off (by omega)]
  clear fm
  change zV G (d + 3) mX11_init (kc + 25) (ks + 395) 94 [(0, .ref x)] [.ref (x + 82), .ref x] (I7, J7, Ra, K7, x + 87) _
  refine pf11_6 (v := some (x + 82)) 54 97 (by decide +kernel) rfl flX11_54 rfl rfl hob7 ?_
  obtain ⟨R7, eR7⟩ : ∃ z, z = zU Ra x 6 (some (x + 82)) := ⟨_, rfl⟩
  rw [← eR7]
  have hR7 : ∀ b, b < x + 82 → b ≠ x → R7 b = R6 b := fun b hb hne => by rw [eR7, zU_off hne, hRa b hb]
  have hX7 : ∀ j, R7 x j = if j = 6 then some (x + 82) else R6 x j := fun j => by rw [eR7, zU_a, hRa x (by omega)]
  obtain ⟨o0, o1, o2, o3, o4, o5, o6, o7, o8, o9⟩ := sh
  have sha : hSig G Ra K7 (x + 87) (x + 82) (x + 20) (x + 3) (x + 4) := ⟨o0, o1, o2, o3, o4, o5, o6, o7, o8, o9, St_mono (y := x) sh4 (fun b hb => by rw [hK7 b (by omega), hK6 b (by omega), hK5 b (by omega)]) (fun b hb hne => by rw [hRa b (by omega), hR6 b (by omega) hne, hR5 b (by omega) hne]) (by omega) (by omega) (by omega) (by omega)⟩
  have sh7 : hSig G R7 K7 (x + 87) (x + 82) (x + 20) (x + 3) (x + 4) := Sig_mono (y := x) sha (fun b hb => rfl) (fun b hb hne => by rw [eR7]; exact zU_off hne) (Nat.le_refl _) (by omega) (by omega) (by omega) (by omega)
  clear sha o0 o1 o2 o3 o4 o5 o6 o7 o8 o9
  clear hRa
  clear eR7 Ra
  refine zAload_n 0 0 98 (by decide +kernel) rfl rfl ?_
  refine yNew0 58 (kc + 24) (ks + 389) 101 (by decide +kernel) rfl clX11_58 (by omega) (by omega) ?_
  refine zDup 102 (by decide +kernel) rfl rfl ?_
  refine zAload_n 0 0 103 (by decide +kernel) rfl rfl ?_
  refine gf11_2 28 106 (by decide +kernel) rfl flX11_28 (sOn hob7) (b := x + 12) (by rw [zFr_off (by omega), hX7, if_neg (by decide), hX6, if_neg (by decide), hX5, if_neg (by decide), hX4, if_neg (by decide), hX3, if_pos rfl]) ?_
  refine zAload_n 0 0 107 (by decide +kernel) rfl rfl ?_
  refine gf11_3 32 110 (by decide +kernel) rfl flX11_32 (sOn hob7) (b := x + 20) (by rw [zFr_off (by omega), hX7, if_neg (by decide), hX6, if_neg (by decide), hX5, if_neg (by decide), hX4, if_pos rfl]) ?_
  refine zCallI mX0_init 60 2 9 33 (kc + 15) (ks + 356) 113 [.ref (x + 12), .ref (x + 20)] [.ref (x + 87), .ref x] okX0_init mlX11_60 imX0_init rfl rfl (by decide +kernel) rfl rfl (Nat.le_of_ble_eq_true rfl) (by omega) (by omega) (zC.mono (kX0 (kc := 0) (ks := 0) (p1 := x + 12) (p2 := x + 20) (sA_new (c := 0) (by omega))) ?_)
  rintro _ _ ⟨rfl, rfl⟩
  obtain ⟨I8, J8, Ra, K8, hh, fm, sh, z1, z2, z3, z4⟩ := fX0 (G := G) (I := zFr I7 (x + 87) 0) (J := zFr J7 (x + 87) 0) (R := zFr R7 (x + 87) none) (K := zKr K7 (x + 87) (0, 0)) (a := x + 87) (p1 := x + 12) (p2 := x + 20) (by omega) (zKr_at' rfl) (fun j => by rw [zFr_at' rfl])
  rw [hh]
  clear hh
  have zi8 : ∀ b j, x + 87 ≤ b → b < x + 97 → I8 b j = 0 := fun b j h1 h2 => by
    by_cases q : b = x + 87
    · subst q; exact z2 j
    · exact z1 b j (by omega) (by omega)
  have zj8 : ∀ b j, x + 87 ≤ b → b < x + 97 → J8 b j = 0 := fun b j h1 h2 => by
    by_cases q : b = x + 87
    · subst q; exact z4 j (by rw [zFr_at' rfl])
    · exact z3 b j (by omega) (by omega)
  clear z1 z2 z3 z4
  have hob8 : sO G K8 (x + 97) x 11 := sO.mono (sOn (p := (0, 0)) hob7) (fun b hb => fm.2.2.2 b (by omega)) (by omega)
  have hI8 : ∀ b, b < x + 87 → I8 b = I7 b := fun b hb => by rw [fm.1 b hb, zFr_off (by omega)]
  have hJ8 : ∀ b, b < x + 87 → J8 b = J7 b := fun b hb => by rw [fm.2.1 b hb, zFr_off (by omega)]
  have hRa : ∀ b, b < x + 87 → Ra b = R7 b := fun b hb => by rw [fm.2.2.1 b hb, zFr_off (by omega)]
  have hK8 : ∀ b, b < x + 87 → K8 b = K7 b := fun b hb => by rw [fm.2.2.2 b (by omega), zKr_off (by omega)]
  clear fm
  change zV G (d + 3) mX11_init (kc + 15) (ks + 356) 113 [(0, .ref x)] [.ref (x + 87), .ref x] (I8, J8, Ra, K8, x + 97) _
  refine pf11_7 (v := some (x + 87)) 63 116 (by decide +kernel) rfl flX11_63 rfl rfl hob8 ?_
  obtain ⟨R8, eR8⟩ : ∃ z, z = zU Ra x 7 (some (x + 87)) := ⟨_, rfl⟩
  rw [← eR8]
  have hR8 : ∀ b, b < x + 87 → b ≠ x → R8 b = R7 b := fun b hb hne => by rw [eR8, zU_off hne, hRa b hb]
  have hX8 : ∀ j, R8 x j = if j = 7 then some (x + 87) else R7 x j := fun j => by rw [eR8, zU_a, hRa x (by omega)]
  obtain ⟨o0, o1, o2, o3, o4, o5, o6, o7, o8, o9, o11⟩ := sh
  have sha : hGam G Ra K8 (x + 97) (x + 87) (x + 12) (x + 20) (x + 3) (x + 4) := ⟨o0, o1, o2, o3, o4, o5, o6, o7, o8, o9, St_mono (y := x) sh3 (fun b hb => by rw [hK8 b (by omega), hK7 b (by omega), hK6 b (by omega), hK5 b (by omega), hK4 b (by omega)]) (fun b hb hne => by rw [hRa b (by omega), hR7 b (by omega) hne, hR6 b (by omega) hne, hR5 b (by omega) hne, hR4 b (by omega) hne]) (by omega) (by omega) (by omega) (by omega), o11, St_mono (y := x) sh4 (fun b hb => by rw [hK8 b (by omega), hK7 b (by omega), hK6 b (by omega), hK5 b (by omega)]) (fun b hb hne => by rw [hRa b (by omega), hR7 b (by omega) hne, hR6 b (by omega) hne, hR5 b (by omega) hne]) (by omega) (by omega) (by omega) (by omega)⟩
  have sh8 : hGam G R8 K8 (x + 97) (x + 87) (x + 12) (x + 20) (x + 3) (x + 4) := Gam_mono (y := x) sha (fun b hb => rfl) (fun b hb hne => by rw [eR8]; exact zU_off hne) (Nat.le_refl _) (by omega) (by omega) (by omega) (by omega) (by omega) (by omega) (by omega)
  clear sha o0 o1 o2 o3 o4 o5 o6 o7 o8 o9 o11
  clear hRa
  clear eR8 Ra
  refine zAload_n 0 0 117 (by decide +kernel) rfl rfl ?_
  refine yNew3 67 (kc + 14) (ks + 353) 120 (by decide +kernel) rfl clX11_67 (by omega) (by omega) ?_
  refine zDup 121 (by decide +kernel) rfl rfl ?_
  refine zCallIN "FenceYards" mX3_init 69 0 1 240 (kc + 13) (ks + 113) 124 [] [.ref (x + 97), .ref x] okX3_init (by decide +kernel) imX3_init rfl rfl (by decide +kernel) rfl rfl (Nat.le_of_ble_eq_true rfl) (by omega) (by omega) (zC.mono (kX3 (kc := 0) (ks := 0)  (sA_new (c := 3) (by omega))) ?_)
  rintro _ _ ⟨rfl, rfl⟩
  obtain ⟨I9, J9, Ra, K9, hh, fm, sh, z1, z2, z3, z4⟩ := fX3 (G := G) (I := zFr I8 (x + 97) 0) (J := zFr J8 (x + 97) 0) (R := zFr R8 (x + 97) none) (K := zKr K8 (x + 97) (3, 0)) (a := x + 97)  (by omega) (zKr_at' rfl) (fun j => by rw [zFr_at' rfl])
  rw [hh]
  clear hh
  have zi9 : ∀ b j, x + 97 ≤ b → b < x + 99 → I9 b j = 0 := fun b j h1 h2 => by
    by_cases q : b = x + 97
    · subst q; exact z2 j
    · exact z1 b j (by omega) (by omega)
  have zj9 : ∀ b j, x + 97 ≤ b → b < x + 99 → J9 b j = 0 := fun b j h1 h2 => by
    by_cases q : b = x + 97
    · subst q; exact z4 j (by rw [zFr_at' rfl])
    · exact z3 b j (by omega) (by omega)
  clear z1 z2 z3 z4
  have hob9 : sO G K9 (x + 99) x 11 := sO.mono (sOn (p := (3, 0)) hob8) (fun b hb => fm.2.2.2 b (by omega)) (by omega)
  have hI9 : ∀ b, b < x + 97 → I9 b = I8 b := fun b hb => by rw [fm.1 b hb, zFr_off (by omega)]
  have hJ9 : ∀ b, b < x + 97 → J9 b = J8 b := fun b hb => by rw [fm.2.1 b hb, zFr_off (by omega)]
  have hRa : ∀ b, b < x + 97 → Ra b = R8 b := fun b hb => by rw [fm.2.2.1 b hb, zFr_off (by omega)]
  have hK9 : ∀ b, b < x + 97 → K9 b = K8 b := fun b hb => by rw [fm.2.2.2 b (by omega), zKr_off (by omega)]
  clear fm
  change zV G (d + 3) mX11_init (kc + 13) (ks + 113) 124 [(0, .ref x)] [.ref (x + 97), .ref x] (I9, J9, Ra, K9, x + 99) _
  refine pf11_8 (v := some (x + 97)) 70 127 (by decide +kernel) rfl flX11_70 rfl rfl hob9 ?_
  obtain ⟨R9, eR9⟩ : ∃ z, z = zU Ra x 8 (some (x + 97)) := ⟨_, rfl⟩
  rw [← eR9]
  have hR9 : ∀ b, b < x + 97 → b ≠ x → R9 b = R8 b := fun b hb hne => by rw [eR9, zU_off hne, hRa b hb]
  have hX9 : ∀ j, R9 x j = if j = 8 then some (x + 97) else R8 x j := fun j => by rw [eR9, zU_a, hRa x (by omega)]
  have sh9 : hLr0 G R9 K9 (x + 99) (x + 97) := Lr0_mono (y := x) sh (fun b hb => rfl) (fun b hb hne => by rw [eR9]; exact zU_off hne) (Nat.le_refl _) (by omega)
  clear hRa sh
  clear eR9 Ra
  refine zAload_n 0 0 128 (by decide +kernel) rfl rfl ?_
  refine zIconst 4 4 129 (by decide +kernel) rfl (by decide) ?_
  refine yAnewL 74 4 (kc + 12) (ks + 109) 132 (by decide +kernel) rfl clX11_74 (by decide) (by decide) (by decide) (by omega) (by omega) ?_
  refine pf11_9 (v := some (x + 99)) 76 135 (by decide +kernel) rfl flX11_76 rfl rfl (sOn hob9) ?_
  obtain ⟨I10, eI10⟩ : ∃ z, z = zFr I9 (x + 99) 0 := ⟨_, rfl⟩
  obtain ⟨J10, eJ10⟩ : ∃ z, z = zFr J9 (x + 99) 0 := ⟨_, rfl⟩
  obtain ⟨R10, eR10⟩ : ∃ z, z = zU (zFr R9 (x + 99) none) x 9 (some (x + 99)) := ⟨_, rfl⟩
  obtain ⟨K10, eK10⟩ : ∃ z, z = zKr K9 (x + 99) (37, 4) := ⟨_, rfl⟩
  have hob10 : sO G K10 (x + 100) x 11 := by rw [eK10]; exact sOn hob9
  change zV G (d + 3) mX11_init (kc + 12) (ks + 109) 135 [(0, .ref x)] [] (zFr I9 (x + 99) 0, zFr J9 (x + 99) 0, zU (zFr R9 (x + 99) none) x 9 (some (x + 99)), zKr K9 (x + 99) (37, 4), x + 100) _
  rw [← eI10, ← eJ10, ← eR10, ← eK10]
  have hI10 : ∀ b, b < x + 99 → I10 b = I9 b := fun b hb => by rw [eI10]; exact zFr_off (by omega)
  have hJ10 : ∀ b, b < x + 99 → J10 b = J9 b := fun b hb => by rw [eJ10]; exact zFr_off (by omega)
  have hR10 : ∀ b, b < x + 99 → b ≠ x → R10 b = R9 b := fun b hb hne => by rw [eR10, zU_off hne, zFr_off (by omega)]
  have hX10 : ∀ j, R10 x j = if j = 9 then some (x + 99) else R9 x j := fun j => by rw [eR10, zU_a, zFr_off (by omega)]
  have hK10 : ∀ b, b < x + 99 → K10 b = K9 b := fun b hb => by rw [eK10]; exact zKr_off (by omega)
  have zi10 : ∀ b j, x + 99 ≤ b → b < x + 100 → I10 b j = 0 := fun b j h1 h2 => by rw [eI10, zFr_at' (by omega)]
  have zj10 : ∀ b j, x + 99 ≤ b → b < x + 100 → J10 b j = 0 := fun b j h1 h2 => by rw [eJ10, zFr_at' (by omega)]
  have zr10 : ∀ j, R10 (x + 99) j = none := fun j => by rw [eR10, zU_off (by omega), zFr_at' rfl]
  have sh10 : sA G K10 (x + 100) (x + 99) 37 4 := ⟨by omega, by omega, by rw [eK10]; exact zKr_at' rfl⟩
  refine zAload_n 0 0 136 (by decide +kernel) rfl rfl ?_
  refine zIconst 4 4 137 (by decide +kernel) rfl (by decide) ?_
  refine yAnewS 80 4 (kc + 11) (ks + 105) 140 (by decide +kernel) rfl clX11_80 (by decide) (by decide) (by decide) (by omega) (by omega) ?_
  refine pf11_10 (v := some (x + 100)) 82 143 (by decide +kernel) rfl flX11_82 rfl rfl (sOn hob10) ?_
  obtain ⟨I11, eI11⟩ : ∃ z, z = zFr I10 (x + 100) 0 := ⟨_, rfl⟩
  obtain ⟨J11, eJ11⟩ : ∃ z, z = zFr J10 (x + 100) 0 := ⟨_, rfl⟩
  obtain ⟨R11, eR11⟩ : ∃ z, z = zU (zFr R10 (x + 100) none) x 10 (some (x + 100)) := ⟨_, rfl⟩
  obtain ⟨K11, eK11⟩ : ∃ z, z = zKr K10 (x + 100) (38, 4) := ⟨_, rfl⟩
  have hob11 : sO G K11 (x + 101) x 11 := by rw [eK11]; exact sOn hob10
  change zV G (d + 3) mX11_init (kc + 11) (ks + 105) 143 [(0, .ref x)] [] (zFr I10 (x + 100) 0, zFr J10 (x + 100) 0, zU (zFr R10 (x + 100) none) x 10 (some (x + 100)), zKr K10 (x + 100) (38, 4), x + 101) _
  rw [← eI11, ← eJ11, ← eR11, ← eK11]
  have hI11 : ∀ b, b < x + 100 → I11 b = I10 b := fun b hb => by rw [eI11]; exact zFr_off (by omega)
  have hJ11 : ∀ b, b < x + 100 → J11 b = J10 b := fun b hb => by rw [eJ11]; exact zFr_off (by omega)
  have hR11 : ∀ b, b < x + 100 → b ≠ x → R11 b = R10 b := fun b hb hne => by rw [eR11, zU_off hne, zFr_off (by omega)]
  have hX11 : ∀ j, R11 x j = if j = 10 then some (x + 100) else R10 x j := fun j => by rw [eR11, zU_a, zFr_off (by omega)]
  have hK11 : ∀ b, b < x + 100 → K11 b = K10 b := fun b hb => by rw [eK11]; exact zKr_off (by omega)
  have zi11 : ∀ b j, x + 100 ≤ b → b < x + 101 → I11 b j = 0 := fun b j h1 h2 => by rw [eI11, zFr_at' (by omega)]
  have zj11 : ∀ b j, x + 100 ≤ b → b < x + 101 → J11 b j = 0 := fun b j h1 h2 => by rw [eJ11, zFr_at' (by omega)]
  have zr11 : ∀ j, R11 (x + 100) j = none := fun j => by rw [eR11, zU_off (by omega), zFr_at' rfl]
  have sh11 : sA G K11 (x + 101) (x + 100) 38 4 := ⟨by omega, by omega, by rw [eK11]; exact zKr_at' rfl⟩
  refine zAload_n 0 0 144 (by decide +kernel) rfl rfl ?_
  refine yNew10 86 (kc + 10) (ks + 94) 147 (by decide +kernel) rfl clX11_86 (by omega) (by omega) ?_
  refine zDup 148 (by decide +kernel) rfl rfl ?_
  refine zCallIN "FenceYards" mX10_init 88 0 6 42 (kc + 4) (ks + 52) 151 [] [.ref (x + 101), .ref x] okX10_init (by decide +kernel) imX10_init rfl rfl (by decide +kernel) rfl rfl (Nat.le_of_ble_eq_true rfl) (by omega) (by omega) (zC.mono (kX10 (kc := 0) (ks := 0)  (sA_new (c := 10) (by omega))) ?_)
  rintro _ _ ⟨rfl, rfl⟩
  obtain ⟨I12, J12, Ra, K12, hh, fm, sh, z1, z2, z3, z4⟩ := fX10 (G := G) (I := zFr I11 (x + 101) 0) (J := zFr J11 (x + 101) 0) (R := zFr R11 (x + 101) none) (K := zKr K11 (x + 101) (10, 0)) (a := x + 101)  (by omega) (zKr_at' rfl) (fun j => by rw [zFr_at' rfl])
  rw [hh]
  clear hh
  have zi12 : ∀ b j, x + 101 ≤ b → b < x + 108 → I12 b j = 0 := fun b j h1 h2 => by
    by_cases q : b = x + 101
    · subst q; exact z2 j
    · exact z1 b j (by omega) (by omega)
  have zj12 : ∀ b j, x + 101 ≤ b → b < x + 108 → J12 b j = 0 := fun b j h1 h2 => by
    by_cases q : b = x + 101
    · subst q; exact z4 j (by rw [zFr_at' rfl])
    · exact z3 b j (by omega) (by omega)
  clear z1 z2 z3 z4
  have hob12 : sO G K12 (x + 108) x 11 := sO.mono (sOn (p := (10, 0)) hob11) (fun b hb => fm.2.2.2 b (by omega)) (by omega)
  have hI12 : ∀ b, b < x + 101 → I12 b = I11 b := fun b hb => by rw [fm.1 b hb, zFr_off (by omega)]
  have hJ12 : ∀ b, b < x + 101 → J12 b = J11 b := fun b hb => by rw [fm.2.1 b hb, zFr_off (by omega)]
  have hRa : ∀ b, b < x + 101 → Ra b = R11 b := fun b hb => by rw [fm.2.2.1 b hb, zFr_off (by omega)]
  have hK12 : ∀ b, b < x + 101 → K12 b = K11 b := fun b hb => by rw [fm.2.2.2 b (by omega), zKr_off (by omega)]
  clear fm
  change zV G (d + 3) mX11_init (kc + 4) (ks + 52) 151 [(0, .ref x)] [.ref (x + 101), .ref x] (I12, J12, Ra, K12, x + 108) _
  refine pf11_11 (v := some (x + 101)) 89 154 (by decide +kernel) rfl flX11_89 hob12 ?_
  obtain ⟨R12, eR12⟩ : ∃ z, z = zU Ra x 11 (some (x + 101)) := ⟨_, rfl⟩
  rw [← eR12]
  have hR12 : ∀ b, b < x + 101 → b ≠ x → R12 b = R11 b := fun b hb hne => by rw [eR12, zU_off hne, hRa b hb]
  have hX12 : ∀ j, R12 x j = if j = 11 then some (x + 101) else R11 x j := fun j => by rw [eR12, zU_a, hRa x (by omega)]
  have sh12 : hVil G R12 K12 (x + 108) (x + 101) := Vil_mono (y := x) sh (fun b hb => rfl) (fun b hb hne => by rw [eR12]; exact zU_off hne) (Nat.le_refl _) (by omega)
  clear hRa sh
  clear eR12 Ra
  refine zAload_n 0 0 155 (by decide +kernel) rfl rfl ?_
  refine yNew7 80 (kc + 3) (ks + 48) 158 (by decide +kernel) rfl clX11_80 (by omega) (by omega) ?_
  refine zDup 159 (by decide +kernel) rfl rfl ?_
  refine zCallIN "FenceYards" mX7_init 93 0 3 48 (kc + 0) (ks + 0) 162 [] [.ref (x + 108), .ref x] okX7_init (by decide +kernel) imX7_init rfl rfl (by decide +kernel) rfl rfl (Nat.le_of_ble_eq_true rfl) (by omega) (by omega) (zC.mono (kX7 (kc := 0) (ks := 0)  (sA_new (c := 7) (by omega))) ?_)
  rintro _ _ ⟨rfl, rfl⟩
  obtain ⟨I13, J13, Ra, K13, hh, fm, sh, z1, z2, z3, z4⟩ := fX7 (G := G) (I := zFr I12 (x + 108) 0) (J := zFr J12 (x + 108) 0) (R := zFr R12 (x + 108) none) (K := zKr K12 (x + 108) (7, 0)) (a := x + 108)  (by omega) (zKr_at' rfl) (fun j => by rw [zFr_at' rfl])
  rw [hh]
  clear hh
  have zi13 : ∀ b j, x + 108 ≤ b → b < x + 112 → I13 b j = 0 := fun b j h1 h2 => by
    by_cases q : b = x + 108
    · subst q; exact z2 j
    · exact z1 b j (by omega) (by omega)
  have zj13 : ∀ b j, x + 108 ≤ b → b < x + 112 → J13 b j = 0 := fun b j h1 h2 => by
    by_cases q : b = x + 108
    · subst q; exact z4 j (by rw [zFr_at' rfl])
    · exact z3 b j (by omega) (by omega)
  clear z1 z2 z3 z4
  have hob13 : sO G K13 (x + 112) x 11 := sO.mono (sOn (p := (7, 0)) hob12) (fun b hb => fm.2.2.2 b (by omega)) (by omega)
  have hI13 : ∀ b, b < x + 108 → I13 b = I12 b := fun b hb => by rw [fm.1 b hb, zFr_off (by omega)]
  have hJ13 : ∀ b, b < x + 108 → J13 b = J12 b := fun b hb => by rw [fm.2.1 b hb, zFr_off (by omega)]
  have hRa : ∀ b, b < x + 108 → Ra b = R12 b := fun b hb => by rw [fm.2.2.1 b hb, zFr_off (by omega)]
  have hK13 : ∀ b, b < x + 108 → K13 b = K12 b := fun b hb => by rw [fm.2.2.2 b (by omega), zKr_off (by omega)]
  clear fm
  change zV G (d + 3) mX11_init (kc + 0) (ks + 0) 162 [(0, .ref x)] [.ref (x + 108), .ref x] (I13, J13, Ra, K13, x + 112) _
  refine pf11_12 (v := some (x + 108)) 94 165 (by decide +kernel) rfl flX11_94 hob13 ?_
  obtain ⟨R13, eR13⟩ : ∃ z, z = zU Ra x 12 (some (x + 108)) := ⟨_, rfl⟩
  rw [← eR13]
  have hR13 : ∀ b, b < x + 108 → b ≠ x → R13 b = R12 b := fun b hb hne => by rw [eR13, zU_off hne, hRa b hb]
  have hX13 : ∀ j, R13 x j = if j = 12 then some (x + 108) else R12 x j := fun j => by rw [eR13, zU_a, hRa x (by omega)]
  have sh13 : hSpr G R13 K13 (x + 112) (x + 108) := Spr_mono (y := x) sh (fun b hb => rfl) (fun b hb hne => by rw [eR13]; exact zU_off hne) (Nat.le_refl _) (by omega)
  clear hRa sh
  clear eR13 Ra
  refine zAload_n 0 0 166 (by decide +kernel) rfl rfl ?_
  refine zIconst 0 0 167 (by decide +kernel) rfl (by decide) ?_
  refine pf11_13 98 170 (by decide +kernel) rfl flX11_98 hob13 ?_
  refine zAload_n 0 0 171 (by decide +kernel) rfl rfl ?_
  refine zIconst 0 0 172 (by decide +kernel) rfl (by decide) ?_
  refine pf11_14 102 175 (by decide +kernel) rfl flX11_102 hob13 ?_
  refine zAload_n 0 0 176 (by decide +kernel) rfl rfl ?_
  refine zIconst (-1) (-1) 177 (by decide +kernel) rfl (by decide) ?_
  refine pf11_15 105 180 (by decide +kernel) rfl flX11_105 hob13 ?_
  refine zAload_n 0 0 181 (by decide +kernel) rfl rfl ?_
  refine zIconst 4 4 182 (by decide +kernel) rfl (by decide) ?_
  refine pf11_16 108 185 (by decide +kernel) rfl flX11_108 hob13 ?_
  refine zAload_n 0 0 186 (by decide +kernel) rfl rfl ?_
  refine zLconst 0 0 187 (by decide +kernel) rfl (by decide) ?_
  refine pf11_17 111 190 (by decide +kernel) rfl flX11_111 hob13 ?_
  refine zVret rfl (by decide +kernel) ⟨_, _, _, _, rfl, rfl, ⟨fun b hb => ?_, fun b hb => ?_, fun b hb => ?_, fun b hb => ?_⟩, ⟨hob13, (by rw [hX13, if_neg (by decide), hX12, if_neg (by decide), hX11, if_neg (by decide), hX10, if_neg (by decide), hX9, if_neg (by decide), hX8, if_neg (by decide), hX7, if_neg (by decide), hX6, if_neg (by decide), hX5, if_neg (by decide), hX4, if_neg (by decide), hX3, if_neg (by decide), hX2, if_neg (by decide), hX1, if_pos rfl]), (Tape_mono (y := x) sh1 (fun b hb => by rw [hK13 b (by omega), hK12 b (by omega), hK11 b (by omega), hK10 b (by omega), hK9 b (by omega), hK8 b (by omega), hK7 b (by omega), hK6 b (by omega), hK5 b (by omega), hK4 b (by omega), hK3 b (by omega), hK2 b (by omega)]) (fun b hb hne => by rw [hR13 b (by omega) hne, hR12 b (by omega) hne, hR11 b (by omega) hne, hR10 b (by omega) hne, hR9 b (by omega) hne, hR8 b (by omega) hne, hR7 b (by omega) hne, hR6 b (by omega) hne, hR5 b (by omega) hne, hR4 b (by omega) hne, hR3 b (by omega) hne, hR2 b (by omega) hne]) (by omega) (by omega)), (by rw [hX13, if_neg (by decide), hX12, if_neg (by decide), hX11, if_neg (by decide), hX10, if_neg (by decide), hX9, if_neg (by decide), hX8, if_neg (by decide), hX7, if_neg (by decide), hX6, if_neg (by decide), hX5, if_neg (by decide), hX4, if_neg (by decide), hX3, if_neg (by decide), hX2, if_pos rfl]), (by rw [hX13, if_neg (by decide), hX12, if_neg (by decide), hX11, if_neg (by decide), hX10, if_neg (by decide), hX9, if_neg (by decide), hX8, if_neg (by decide), hX7, if_neg (by decide), hX6, if_neg (by decide), hX5, if_neg (by decide), hX4, if_neg (by decide), hX3, if_pos rfl]), (St_mono (y := x) sh3 (fun b hb => by rw [hK13 b (by omega), hK12 b (by omega), hK11 b (by omega), hK10 b (by omega), hK9 b (by omega), hK8 b (by omega), hK7 b (by omega), hK6 b (by omega), hK5 b (by omega), hK4 b (by omega)]) (fun b hb hne => by rw [hR13 b (by omega) hne, hR12 b (by omega) hne, hR11 b (by omega) hne, hR10 b (by omega) hne, hR9 b (by omega) hne, hR8 b (by omega) hne, hR7 b (by omega) hne, hR6 b (by omega) hne, hR5 b (by omega) hne, hR4 b (by omega) hne]) (by omega) (by omega) (by omega) (by omega)), (by rw [hX13, if_neg (by decide), hX12, if_neg (by decide), hX11, if_neg (by decide), hX10, if_neg (by decide), hX9, if_neg (by decide), hX8, if_neg (by decide), hX7, if_neg (by decide), hX6, if_neg (by decide), hX5, if_neg (by decide), hX4, if_pos rfl]), (St_mono (y := x) sh4 (fun b hb => by rw [hK13 b (by omega), hK12 b (by omega), hK11 b (by omega), hK10 b (by omega), hK9 b (by omega), hK8 b (by omega), hK7 b (by omega), hK6 b (by omega), hK5 b (by omega)]) (fun b hb hne => by rw [hR13 b (by omega) hne, hR12 b (by omega) hne, hR11 b (by omega) hne, hR10 b (by omega) hne, hR9 b (by omega) hne, hR8 b (by omega) hne, hR7 b (by omega) hne, hR6 b (by omega) hne, hR5 b (by omega) hne]) (by omega) (by omega) (by omega) (by omega)), (by rw [hX13, if_neg (by decide), hX12, if_neg (by decide), hX11, if_neg (by decide), hX10, if_neg (by decide), hX9, if_neg (by decide), hX8, if_neg (by decide), hX7, if_neg (by decide), hX6, if_neg (by decide), hX5, if_pos rfl]), (His_mono (y := x) sh5 (fun b hb => by rw [hK13 b (by omega), hK12 b (by omega), hK11 b (by omega), hK10 b (by omega), hK9 b (by omega), hK8 b (by omega), hK7 b (by omega), hK6 b (by omega)]) (fun b hb hne => by rw [hR13 b (by omega) hne, hR12 b (by omega) hne, hR11 b (by omega) hne, hR10 b (by omega) hne, hR9 b (by omega) hne, hR8 b (by omega) hne, hR7 b (by omega) hne, hR6 b (by omega) hne]) (by omega) (by omega) (by omega) (by omega) (by omega)), (by rw [hX13, if_neg (by decide), hX12, if_neg (by decide), hX11, if_neg (by decide), hX10, if_neg (by decide), hX9, if_neg (by decide), hX8, if_neg (by decide), hX7, if_neg (by decide), hX6, if_pos rfl]), (Sea_mono (y := x) sh6 (fun b hb => by rw [hK13 b (by omega), hK12 b (by omega), hK11 b (by omega), hK10 b (by omega), hK9 b (by omega), hK8 b (by omega), hK7 b (by omega)]) (fun b hb hne => by rw [hR13 b (by omega) hne, hR12 b (by omega) hne, hR11 b (by omega) hne, hR10 b (by omega) hne, hR9 b (by omega) hne, hR8 b (by omega) hne, hR7 b (by omega) hne]) (by omega) (by omega) (by omega) (by omega) (by omega)), (by rw [hX13, if_neg (by decide), hX12, if_neg (by decide), hX11, if_neg (by decide), hX10, if_neg (by decide), hX9, if_neg (by decide), hX8, if_neg (by decide), hX7, if_pos rfl]), (Sig_mono (y := x) sh7 (fun b hb => by rw [hK13 b (by omega), hK12 b (by omega), hK11 b (by omega), hK10 b (by omega), hK9 b (by omega), hK8 b (by omega)]) (fun b hb hne => by rw [hR13 b (by omega) hne, hR12 b (by omega) hne, hR11 b (by omega) hne, hR10 b (by omega) hne, hR9 b (by omega) hne, hR8 b (by omega) hne]) (by omega) (by omega) (by omega) (by omega) (by omega)), (by rw [hX13, if_neg (by decide), hX12, if_neg (by decide), hX11, if_neg (by decide), hX10, if_neg (by decide), hX9, if_neg (by decide), hX8, if_pos rfl]), (Gam_mono (y := x) sh8 (fun b hb => by rw [hK13 b (by omega), hK12 b (by omega), hK11 b (by omega), hK10 b (by omega), hK9 b (by omega)]) (fun b hb hne => by rw [hR13 b (by omega) hne, hR12 b (by omega) hne, hR11 b (by omega) hne, hR10 b (by omega) hne, hR9 b (by omega) hne]) (by omega) (by omega) (by omega) (by omega) (by omega) (by omega) (by omega) (by omega)), (by rw [hX13, if_neg (by decide), hX12, if_neg (by decide), hX11, if_neg (by decide), hX10, if_neg (by decide), hX9, if_pos rfl]), (Lr0_mono (y := x) sh9 (fun b hb => by rw [hK13 b (by omega), hK12 b (by omega), hK11 b (by omega), hK10 b (by omega)]) (fun b hb hne => by rw [hR13 b (by omega) hne, hR12 b (by omega) hne, hR11 b (by omega) hne, hR10 b (by omega) hne]) (by omega) (by omega)), (by rw [hX13, if_neg (by decide), hX12, if_neg (by decide), hX11, if_neg (by decide), hX10, if_pos rfl]), (sA.mono sh10 (fun b hb => by rw [hK13 b (by omega), hK12 b (by omega), hK11 b (by omega)]) (by omega)), (by rw [hX13, if_neg (by decide), hX12, if_neg (by decide), hX11, if_pos rfl]), (sA.mono sh11 (fun b hb => by rw [hK13 b (by omega), hK12 b (by omega)]) (by omega)), (by rw [hX13, if_neg (by decide), hX12, if_pos rfl]), (Vil_mono (y := x) sh12 (fun b hb => by rw [hK13 b (by omega)]) (fun b hb hne => by rw [hR13 b (by omega) hne]) (by omega) (by omega)), (by rw [hX13, if_pos rfl]), (Spr_mono (y := x) sh13 (fun b hb => rfl) (fun b hb hne => rfl) (by omega) (by omega)), (Set_mono (y := x) sh2 (fun b hb => by rw [hK13 b (by omega), hK12 b (by omega), hK11 b (by omega), hK10 b (by omega), hK9 b (by omega), hK8 b (by omega), hK7 b (by omega), hK6 b (by omega), hK5 b (by omega), hK4 b (by omega), hK3 b (by omega)]) (fun b hb hne => by rw [hR13 b (by omega) hne, hR12 b (by omega) hne, hR11 b (by omega) hne, hR10 b (by omega) hne, hR9 b (by omega) hne, hR8 b (by omega) hne, hR7 b (by omega) hne, hR6 b (by omega) hne, hR5 b (by omega) hne, hR4 b (by omega) hne, hR3 b (by omega) hne]) (by omega) (by omega) (by omega))⟩, fun b j h1 h2 => ?_, fun b j h1 h2 => ?_, ?_, ?_, ?_, ?_, ?_, ?_, ?_, ?_, ?_⟩
  · rw [zU_off (by omega), zU_off (by omega), zU_off (by omega), zU_off (by omega), hI13 b (by omega), hI12 b (by omega), hI11 b (by omega), hI10 b (by omega), hI9 b (by omega), hI8 b (by omega), hI7 b (by omega), hI6 b (by omega), hI5 b (by omega), hI4 b (by omega), hI3 b (by omega), hI2 b (by omega), hI1 b (by omega)]
  · rw [zU_off (by omega), hJ13 b (by omega), hJ12 b (by omega), hJ11 b (by omega), hJ10 b (by omega), hJ9 b (by omega), hJ8 b (by omega), hJ7 b (by omega), hJ6 b (by omega), hJ5 b (by omega), hJ4 b (by omega), hJ3 b (by omega), hJ2 b (by omega), hJ1 b (by omega)]
  · rw [hR13 b (by omega) (by omega), hR12 b (by omega) (by omega), hR11 b (by omega) (by omega), hR10 b (by omega) (by omega), hR9 b (by omega) (by omega), hR8 b (by omega) (by omega), hR7 b (by omega) (by omega), hR6 b (by omega) (by omega), hR5 b (by omega) (by omega), hR4 b (by omega) (by omega), hR3 b (by omega) (by omega), hR2 b (by omega) (by omega), hR1 b (by omega) (by omega)]
  · rw [hK13 b (by omega), hK12 b (by omega), hK11 b (by omega), hK10 b (by omega), hK9 b (by omega), hK8 b (by omega), hK7 b (by omega), hK6 b (by omega), hK5 b (by omega), hK4 b (by omega), hK3 b (by omega), hK2 b (by omega), hK1 b (by omega)]
  · rw [zU_off (by omega), zU_off (by omega), zU_off (by omega), zU_off (by omega)]
    by_cases q1 : b < x + 3
    · rw [hI13 b (by omega), hI12 b (by omega), hI11 b (by omega), hI10 b (by omega), hI9 b (by omega), hI8 b (by omega), hI7 b (by omega), hI6 b (by omega), hI5 b (by omega), hI4 b (by omega), hI3 b (by omega), hI2 b (by omega)]; rw [if_neg (by omega)]; exact zi1 b j (by omega) (by omega)
    · skip
      by_cases q2 : b < x + 12
      · rw [hI13 b (by omega), hI12 b (by omega), hI11 b (by omega), hI10 b (by omega), hI9 b (by omega), hI8 b (by omega), hI7 b (by omega), hI6 b (by omega), hI5 b (by omega), hI4 b (by omega), hI3 b (by omega)]; rw [if_neg (by omega)]; exact zi2 b j (by omega) (by omega)
      · skip
        by_cases q3 : b < x + 20
        · rw [hI13 b (by omega), hI12 b (by omega), hI11 b (by omega), hI10 b (by omega), hI9 b (by omega), hI8 b (by omega), hI7 b (by omega), hI6 b (by omega), hI5 b (by omega), hI4 b (by omega)]; rw [if_neg (by omega)]; exact zi3 b j (by omega) (by omega)
        · skip
          by_cases q4 : b < x + 28
          · rw [hI13 b (by omega), hI12 b (by omega), hI11 b (by omega), hI10 b (by omega), hI9 b (by omega), hI8 b (by omega), hI7 b (by omega), hI6 b (by omega), hI5 b (by omega)]; rw [if_neg (by omega)]; exact zi4 b j (by omega) (by omega)
          · skip
            by_cases q5 : b < x + 80
            · rw [hI13 b (by omega), hI12 b (by omega), hI11 b (by omega), hI10 b (by omega), hI9 b (by omega), hI8 b (by omega), hI7 b (by omega), hI6 b (by omega)]; rw [if_neg (by omega)]; exact zi5 b j (by omega) (by omega)
            · skip
              by_cases q6 : b < x + 82
              · rw [hI13 b (by omega), hI12 b (by omega), hI11 b (by omega), hI10 b (by omega), hI9 b (by omega), hI8 b (by omega), hI7 b (by omega)]; exact zi6 b j (by omega) (by omega)
              · skip
                by_cases q7 : b < x + 87
                · rw [hI13 b (by omega), hI12 b (by omega), hI11 b (by omega), hI10 b (by omega), hI9 b (by omega), hI8 b (by omega)]; rw [if_neg (by omega)]; exact zi7 b j (by omega) (by omega)
                · skip
                  by_cases q8 : b < x + 97
                  · rw [hI13 b (by omega), hI12 b (by omega), hI11 b (by omega), hI10 b (by omega), hI9 b (by omega)]; rw [if_neg (by omega)]; exact zi8 b j (by omega) (by omega)
                  · skip
                    by_cases q9 : b < x + 99
                    · rw [hI13 b (by omega), hI12 b (by omega), hI11 b (by omega), hI10 b (by omega)]; rw [if_neg (by omega)]; exact zi9 b j (by omega) (by omega)
                    · skip
                      by_cases q10 : b < x + 100
                      · rw [hI13 b (by omega), hI12 b (by omega), hI11 b (by omega)]; rw [if_neg (by omega)]; exact zi10 b j (by omega) (by omega)
                      · skip
                        by_cases q11 : b < x + 101
                        · rw [hI13 b (by omega), hI12 b (by omega)]; rw [if_neg (by omega)]; exact zi11 b j (by omega) (by omega)
                        · skip
                          by_cases q12 : b < x + 108
                          · rw [hI13 b (by omega)]; rw [if_neg (by omega)]; exact zi12 b j (by omega) (by omega)
                          · skip
                            rw [if_neg (by omega)]; exact zi13 b j (by omega) (by omega)
  · rw [zU_off (by omega)]
    by_cases q1 : b < x + 3
    · rw [hJ13 b (by omega), hJ12 b (by omega), hJ11 b (by omega), hJ10 b (by omega), hJ9 b (by omega), hJ8 b (by omega), hJ7 b (by omega), hJ6 b (by omega), hJ5 b (by omega), hJ4 b (by omega), hJ3 b (by omega), hJ2 b (by omega)]; exact zj1 b j (by omega) (by omega)
    · skip
      by_cases q2 : b < x + 12
      · rw [hJ13 b (by omega), hJ12 b (by omega), hJ11 b (by omega), hJ10 b (by omega), hJ9 b (by omega), hJ8 b (by omega), hJ7 b (by omega), hJ6 b (by omega), hJ5 b (by omega), hJ4 b (by omega), hJ3 b (by omega)]; exact zj2 b j (by omega) (by omega)
      · skip
        by_cases q3 : b < x + 20
        · rw [hJ13 b (by omega), hJ12 b (by omega), hJ11 b (by omega), hJ10 b (by omega), hJ9 b (by omega), hJ8 b (by omega), hJ7 b (by omega), hJ6 b (by omega), hJ5 b (by omega), hJ4 b (by omega)]; exact zj3 b j (by omega) (by omega)
        · skip
          by_cases q4 : b < x + 28
          · rw [hJ13 b (by omega), hJ12 b (by omega), hJ11 b (by omega), hJ10 b (by omega), hJ9 b (by omega), hJ8 b (by omega), hJ7 b (by omega), hJ6 b (by omega), hJ5 b (by omega)]; exact zj4 b j (by omega) (by omega)
          · skip
            by_cases q5 : b < x + 80
            · rw [hJ13 b (by omega), hJ12 b (by omega), hJ11 b (by omega), hJ10 b (by omega), hJ9 b (by omega), hJ8 b (by omega), hJ7 b (by omega), hJ6 b (by omega)]; exact zj5 b j (by omega) (by omega)
            · skip
              by_cases q6 : b < x + 82
              · rw [hJ13 b (by omega), hJ12 b (by omega), hJ11 b (by omega), hJ10 b (by omega), hJ9 b (by omega), hJ8 b (by omega), hJ7 b (by omega)]; exact zj6 b j (by omega) (by omega)
              · skip
                by_cases q7 : b < x + 87
                · rw [hJ13 b (by omega), hJ12 b (by omega), hJ11 b (by omega), hJ10 b (by omega), hJ9 b (by omega), hJ8 b (by omega)]; exact zj7 b j (by omega) (by omega)
                · skip
                  by_cases q8 : b < x + 97
                  · rw [hJ13 b (by omega), hJ12 b (by omega), hJ11 b (by omega), hJ10 b (by omega), hJ9 b (by omega)]; exact zj8 b j (by omega) (by omega)
                  · skip
                    by_cases q9 : b < x + 99
                    · rw [hJ13 b (by omega), hJ12 b (by omega), hJ11 b (by omega), hJ10 b (by omega)]; exact zj9 b j (by omega) (by omega)
                    · skip
                      by_cases q10 : b < x + 100
                      · rw [hJ13 b (by omega), hJ12 b (by omega), hJ11 b (by omega)]; exact zj10 b j (by omega) (by omega)
                      · skip
                        by_cases q11 : b < x + 101
                        · rw [hJ13 b (by omega), hJ12 b (by omega)]; exact zj11 b j (by omega) (by omega)
                        · skip
                          by_cases q12 : b < x + 108
                          · rw [hJ13 b (by omega)]; exact zj12 b j (by omega) (by omega)
                          · skip
                            exact zj13 b j (by omega) (by omega)
  · simp [zU_a]
  · simp [zU_a]
  · simp [zU_a]
  · simp [zU_a]
  · simp [zU_a]
  · rw [hR13 (x + 3) (by omega) (by omega), hR12 (x + 3) (by omega) (by omega), hR11 (x + 3) (by omega) (by omega), hR10 (x + 3) (by omega) (by omega), hR9 (x + 3) (by omega) (by omega), hR8 (x + 3) (by omega) (by omega), hR7 (x + 3) (by omega) (by omega), hR6 (x + 3) (by omega) (by omega), hR5 (x + 3) (by omega) (by omega), hR4 (x + 3) (by omega) (by omega), hR3 (x + 3) (by omega) (by omega)]; exact zl2
  · intro j; rw [hR13 (x + 99) (by omega) (by omega), hR12 (x + 99) (by omega) (by omega), hR11 (x + 99) (by omega) (by omega)]; exact zr10 j
  · intro j; rw [hR13 (x + 100) (by omega) (by omega), hR12 (x + 100) (by omega) (by omega)]; exact zr11 j
  · trivial
