/-! LAWS AND SPRINGS THAT ARE KEPT: new cells -/
section
variable {G : zG} {d kc ks : Nat} {I : Nat → Nat → Int32} {J : Nat → Nat → Int64} {R : Nat → Nat → Option Nat} {K : Nat → Nat × Nat} {n : Nat} {x v w q : Nat} {Q : Option Value → zH → Prop}
theorem q_copyOf {a c N : Nat} (ha : sA G K n a 32 N) (hz : G.1 ≤ n) (hc : c < N) (hN : N ≤ 240) : zC G (d + 2) mJ7_copyOf_59c91 (kc + 1) (ks + 240) [.ref a, .int (nI c)] (I, J, R, K, n) (fun r h => r = some (.ref n) ∧ h = (zRow (zFr I n 0) n (va_cpy (I a) (fun _ => 0) 0 0 c), zFr J n 0, zFr R n none, zKr K n (32, c), n + 1)) := by
  have ha1 : sA G (zKr K n (32, c)) (n + 1) a 32 N := ⟨ha.1, by have := ha.2.1; omega, by rw [zKr_off (by have := ha.2.1; omega)]; exact ha.2.2⟩
  have hn1 : sA G (zKr K n (32, c)) (n + 1) n 32 c := ⟨hz, by omega, zKr_at' rfl⟩
  have an : a ≠ n := by have := ha.2.1; omega
  refine zC.of (by decide) (Nat.le_of_ble_eq_true rfl) ?_
  refine zIload_n 1 1 1 (by decide +kernel) rfl rfl ?_
  refine zAload_n 0 0 2 (by decide +kernel) rfl rfl ?_
  refine yAlenI 32 N 3 (by decide +kernel) rfl (by omega) (by omega) ha ?_
  refine zIcmp_ne 11 14 6 (by decide +kernel) rfl rfl ⟨fun _ => ?_, fun h => absurd ((tk_eq (by omega) (by omega)).mp h) (by omega)⟩
  refine zIload_n 1 1 15 (by decide +kernel) rfl rfl ?_
  refine yNewI c kc (ks + 240 - c) 17 (by decide +kernel) rfl (nI_pos (by omega)) (tk_c (by omega)) (by show c * 4 ≤ 536870912; omega) (by omega) (by omega) ?_
  refine zAstore_n 2 [(2, .ref n), (0, .ref a), (1, .int (nI c))] 18 (by decide +kernel) rfl (by decide) rfl ?_
  refine zAload_n 0 1 19 (by decide +kernel) rfl rfl ?_
  refine zIconst 0 0 20 (by decide +kernel) rfl (by decide) ?_
  refine zAload_n 2 0 21 (by decide +kernel) rfl rfl ?_
  refine zIconst 0 0 22 (by decide +kernel) rfl (by decide) ?_
  refine zAload_n 0 1 23 (by decide +kernel) rfl rfl ?_
  refine yAlenI 32 N 24 (by decide +kernel) rfl (by omega) (by omega) ha1 ?_
  refine zIload_n 1 2 25 (by decide +kernel) rfl rfl ?_
  refine yMin 304 28 (by decide +kernel) rfl mlJ7_304 (Nat.le_of_ble_eq_true rfl) ?_
  rw [if_pos (show nI c < nI N from (tk_lt (by omega) (by omega)).mpr hc)]
  refine yCopy 150 N c 31 (by decide +kernel) rfl mlJ7_150 (Nat.le_of_ble_eq_true rfl) ha1 hn1 (by decide) (by decide) (nI_pos (by omega)) (by rw [tk_c (by omega)]; show 0 + c ≤ N; omega) (by rw [tk_c (by omega)]; show 0 + c ≤ c; omega) ?_
  refine zAload_n 2 0 32 (by decide +kernel) rfl rfl ?_
  refine zAret (.array .int) rfl (Or.inr ⟨_, rfl⟩) (by decide +kernel) ⟨rfl, ?_⟩
  rw [tk_c (by omega), zFr_off an, zFr_at' rfl]
  rfl
theorem q_keepLaw {c k : Nat} (S : hX G R K n x v w q) (hx : x + 112 ≤ n) (hv : v < n) (hw : w < n) (hq : q < n) (hz : G.1 ≤ n) (ec : I (x + 97) 1 = nI c) (hc : c < 240) (ek : I x 13 = nI k) (hk : k < 4) (hQ : ∀ I' J' R' K', (∀ b j, b < n → ¬ (b = x ∧ j = 13) → I' b j = I b j) → I' x 13 = nI (k + 1) → (∀ j, j < c → I' (n + 1) j = I (x + 98) j) → (∀ b, b < n → J' b = J b) → (∀ b j, b < n → ¬ (b = x + 99 ∧ j = k) → R' b j = R b j) → R' (x + 99) k = some n → R' n 0 = some (n + 1) → R' n 1 = some (n + 2) → (∀ b, b < n → K' b = K b) → K' n = (2, 0) → K' (n + 1) = (32, c) → K' (n + 2) = (32, 32) → Q (some (.int (nI k))) (I', J', R', K', n + 3)) : zC G (d + 3) mX11_keepLaw (kc + 3) (ks + 274) [.ref x] (I, J, R, K, n) Q := by
  have S1 : hX G (zFr R n none) (zKr K n (2, 0)) (n + 1) x v w q := X_mono (y := n) S (fun b hb => zKr_off (by omega)) (fun b hb _ => zFr_off (by omega)) (by omega) (by omega) (by omega) (by omega) (by omega) (by omega) (by omega) (by omega) (by omega) (by omega) (by omega) (by omega) (by omega) (by omega) (by omega) (by omega) (by omega) (by omega) (by omega)
  have ec1 : zFr I n 0 (x + 97) 1 = nI c := by rw [zFr_off (by omega)]; exact ec
  refine zC.of (by decide) (Nat.le_of_ble_eq_true rfl) ?_
  refine zAload_n 0 0 1 (by decide +kernel) rfl rfl ?_
  refine gf11_9 76 4 (by decide +kernel) rfl flX11_76 (X_0 S) (X_18 S) ?_
  refine zAload_n 0 0 5 (by decide +kernel) rfl rfl ?_
  refine gf11_13 98 8 (by decide +kernel) rfl flX11_98 (X_0 S) ?_
  rw [ek]
  refine yNew2 74 (kc + 2) (ks + 272) 11 (by decide +kernel) rfl clX11_74 (by omega) (by omega) ?_
  refine zDup 12 (by decide +kernel) rfl rfl ?_
  refine zAload_n 0 0 13 (by decide +kernel) rfl rfl ?_
  refine gf11_8 70 16 (by decide +kernel) rfl flX11_70 (X_0 S1) (X_16 S1) ?_
  refine gf3_0 412 19 (by decide +kernel) rfl flX11_412 (Lr0_0 (X_17 S1)) (Lr0_1 (X_17 S1)) ?_
  refine zAload_n 0 0 20 (by decide +kernel) rfl rfl ?_
  refine gf11_8 70 23 (by decide +kernel) rfl flX11_70 (X_0 S1) (X_16 S1) ?_
  refine gf3_1 415 26 (by decide +kernel) rfl flX11_415 (Lr0_0 (X_17 S1)) ?_
  rw [ec1]
  refine zCallS mJ7_copyOf_59c91 416 2 1 240 (kc + 1) (ks + 32) 29 [.ref (x + 97 + 1), .int (nI c)] [.ref n, .ref n, .int (nI k), .ref (x + 99)] okJ7_copyOf_59c91 mlX11_416 smJ7_copyOf_59c91 (by decide +kernel) rfl rfl (Nat.le_of_ble_eq_true rfl) (by omega) (by omega) (zC.mono (q_copyOf (kc := 0) (ks := 0) (Lr0_2 (X_17 S1)) (by omega) hc (by omega)) ?_)
  rintro _ _ ⟨rfl, rfl⟩
  obtain ⟨I2, e2⟩ : ∃ I2, I2 = zRow (zFr (zFr I n 0) (n + 1) 0) (n + 1) (va_cpy (zFr I n 0 (x + 97 + 1)) (fun _ => 0) 0 0 c) := ⟨_, rfl⟩
  obtain ⟨J2, f2⟩ : ∃ J2, J2 = zFr (zFr J n 0) (n + 1) 0 := ⟨_, rfl⟩
  obtain ⟨R2, g2⟩ : ∃ R2, R2 = zFr (zFr R n none) (n + 1) none := ⟨_, rfl⟩
  obtain ⟨K2, k2⟩ : ∃ K2, K2 = zKr (zKr K n (2, 0)) (n + 1) (32, c) := ⟨_, rfl⟩
  rw [← e2, ← f2, ← g2, ← k2]
  have o2 : sO G K2 (n + 1 + 1) n 2 := ⟨hz, by omega, by rw [k2, zKr_off (by omega), zKr_at' rfl]⟩
  refine zCallI mX2_init 422 1 1 32 kc ks 32 [.ref (n + 1)] [.ref n, .int (nI k), .ref (x + 99)] okX2_init mlX11_422 imX2_init rfl rfl (by decide +kernel) rfl rfl (Nat.le_of_ble_eq_true rfl) (by omega) (by omega) (zC.mono (kX2 (kc := 0) (ks := 0) (n + 1) o2) ?_)
  rintro _ _ ⟨rfl, rfl⟩
  unfold ctX2
  obtain ⟨I3, e3⟩ : ∃ I3, I3 = zFr I2 (n + 1 + 1) 0 := ⟨_, rfl⟩
  obtain ⟨J3, f3⟩ : ∃ J3, J3 = zFr J2 (n + 1 + 1) 0 := ⟨_, rfl⟩
  obtain ⟨R3, g3⟩ : ∃ R3, R3 = zU (zU (zFr R2 (n + 1 + 1) none) n 1 (some (n + 1 + 1))) n 0 (some (n + 1)) := ⟨_, rfl⟩
  obtain ⟨K3, k3⟩ : ∃ K3, K3 = zKr K2 (n + 1 + 1) (32, 32) := ⟨_, rfl⟩
  rw [← e3, ← f3, ← g3, ← k3]
  have Kb : ∀ b, b < n → K3 b = K b := fun b hb => by rw [k3, zKr_off (by omega), k2, zKr_off (by omega), zKr_off (by omega)]
  have Rb : ∀ b, b < n → R3 b = R b := fun b hb => by rw [g3, zU_off (by omega), zU_off (by omega), zFr_off (by omega), g2, zFr_off (by omega), zFr_off (by omega)]
  have Ib : ∀ b, b < n → I3 b = I b := fun b hb => by rw [e3, zFr_off (by omega), e2, zRow_off (by omega), zFr_off (by omega), zFr_off (by omega)]
  have S3 : hX G R3 K3 (n + 1 + 1 + 1) x v w q := X_mono (y := n) S Kb (fun b hb _ => Rb b hb) (by omega) (by omega) (by omega) (by omega) (by omega) (by omega) (by omega) (by omega) (by omega) (by omega) (by omega) (by omega) (by omega) (by omega) (by omega) (by omega) (by omega) (by omega) (by omega)
  refine yAastoreL 4 33 (by decide +kernel) rfl (X_19 S3) ⟨hz, by omega, by rw [k3, zKr_off (by omega)]; exact o2.2.2⟩ ((tk_in (by omega) (by omega)).mpr hk) ?_
  rw [tk_c (by omega)]
  refine zAload_n 0 0 34 (by decide +kernel) rfl rfl ?_
  refine zDup 35 (by decide +kernel) rfl rfl ?_
  refine gf11_13 98 38 (by decide +kernel) rfl flX11_98 (X_0 S3) ?_
  rw [Ib x (by omega), ek]
  refine zIconst 1 1 39 (by decide +kernel) rfl (by decide) ?_
  refine zIadd 40 (by decide +kernel) rfl ?_
  rw [nI_1]
  refine pf11_13 98 43 (by decide +kernel) rfl flX11_98 (X_0 S3) ?_
  refine zAload_n 0 0 44 (by decide +kernel) rfl rfl ?_
  refine gf11_13 98 47 (by decide +kernel) rfl flX11_98 (X_0 S3) ?_
  rw [zU_self]
  refine zIconst 1 1 48 (by decide +kernel) rfl (by decide) ?_
  refine zIsub 49 (by decide +kernel) rfl ?_
  rw [show nI (k + 1) - 1 = nI k from (tk_sub (b := 1) (by omega)).trans (congrArg nI (by omega))]
  refine zIret rfl (by decide +kernel) ?_
  refine hQ (zU I3 x 13 (nI (k + 1))) J3 (zU R3 (x + 99) k (some n)) K3 (fun b j hb hj => by rw [zU_ne hj, Ib b hb]) (zU_self ..) (fun j hj => ?_) (fun b hb => by rw [f3, zFr_off (by omega), f2, zFr_off (by omega), zFr_off (by omega)]) (fun b j hb hj => by rw [zU_ne hj, Rb b hb]) (zU_self ..) ?_ ?_ Kb ?_ ?_ ?_
  · rw [zU_off (by omega), e3, zFr_off (by omega), e2, zRow_at, cpy_in (by omega) (by omega), zFr_off (by omega), show 0 + (j - 0) = j by omega]
  · rw [zU_off (by omega), g3, zU_self]
  · rw [zU_off (by omega), g3, zU_ne (by omega), zU_self]
  · rw [k3, zKr_off (by omega), k2, zKr_off (by omega), zKr_at' rfl]
  · rw [k3, zKr_off (by omega), k2, zKr_at' rfl]
  · rw [k3, zKr_at' rfl]
theorem q_keepSpring {k : Nat} (S : hX G R K n x v w q) (hx : x + 112 ≤ n) (hv : v < n) (hw : w < n) (hq : q < n) (hz : G.1 ≤ n) (ek : I x 14 = nI k) (hk : k < 4) (hQ : ∀ I' J' R' K', (∀ b j, b < n → ¬ (b = x ∧ j = 14) → I' b j = I b j) → I' x 14 = nI (k + 1) → (∀ b, b < n → J' b = J b) → (∀ b j, b < n → ¬ (b = x + 100 ∧ j = k) → ¬ (b = x ∧ j = 12) → R' b j = R b j) → R' (x + 100) k = some q → R' x 12 = some n → (∀ b, b < n → K' b = K b) → hSpr G R' K' (n + 4) n → Q (some (.int (nI k))) (I', J', R', K', n + 4)) : zC G (d + 3) mX11_keepSpring (kc + 4) (ks + 52) [.ref x] (I, J, R, K, n) Q := by
  refine zC.of (by decide) (Nat.le_of_ble_eq_true rfl) ?_
  refine zAload_n 0 0 1 (by decide +kernel) rfl rfl ?_
  refine gf11_10 82 4 (by decide +kernel) rfl flX11_82 (X_0 S) (X_20 S) ?_
  refine zAload_n 0 0 5 (by decide +kernel) rfl rfl ?_
  refine gf11_14 102 8 (by decide +kernel) rfl flX11_102 (X_0 S) ?_
  rw [ek]
  refine zAload_n 0 0 9 (by decide +kernel) rfl rfl ?_
  refine gf11_12 94 12 (by decide +kernel) rfl flX11_94 (X_0 S) (X_24 S) ?_
  refine yAastoreS 4 13 (by decide +kernel) rfl (X_21 S) (Spr_0 (X_25 S)) ((tk_in (by omega) (by omega)).mpr hk) ?_
  rw [tk_c (by omega)]
  refine zAload_n 0 0 14 (by decide +kernel) rfl rfl ?_
  refine yNew7 80 (kc + 3) (ks + 48) 17 (by decide +kernel) rfl clX11_80 (by omega) (by omega) ?_
  refine zDup 18 (by decide +kernel) rfl rfl ?_
  have o2 : sO G (zKr K n (7, 0)) (n + 1) n 7 := sA_new hz
  refine zCallIN "FenceYards" mX7_init 93 0 3 48 kc ks 21 [] [.ref n, .ref x] okX7_init (by decide +kernel) imX7_init rfl rfl (by decide +kernel) rfl rfl (Nat.le_of_ble_eq_true rfl) (by omega) (by omega) (zC.mono (kX7 (kc := 0) (ks := 0) o2) ?_)
  rintro _ _ ⟨rfl, rfl⟩
  obtain ⟨I3, J3, R3, K3, e3, ⟨f1, f2, f3, f4⟩, sh, -⟩ := fX7 (G := G) (I := zFr I n 0) (J := zFr J n 0) (R := zFr (zU R (x + 100) k (some q)) n none) (K := zKr K n (7, 0)) (a := n) hz (zKr_at' rfl) (fun j => by rw [zFr_at' rfl])
  rw [e3]
  have Kb : ∀ b, b < n → K3 b = K b := fun b hb => by rw [f4 b (by omega), zKr_off (by omega)]
  have Rb : ∀ b, b < n → R3 b = zU R (x + 100) k (some q) b := fun b hb => by rw [f3 b hb, zFr_off (by omega)]
  have Ib : ∀ b, b < n → I3 b = I b := fun b hb => by rw [f1 b hb, zFr_off (by omega)]
  have Xo : sO G K3 (n + 1 + 3) x 11 := ⟨(X_0 S).1, by have := (X_0 S).2.1; omega, by rw [Kb x (by omega)]; exact (X_0 S).2.2⟩
  refine pf11_12 (v := some n) 94 24 (by decide +kernel) rfl flX11_94 Xo ?_
  refine zAload_n 0 0 25 (by decide +kernel) rfl rfl ?_
  refine zDup 26 (by decide +kernel) rfl rfl ?_
  refine gf11_14 102 29 (by decide +kernel) rfl flX11_102 Xo ?_
  rw [Ib x (by omega), ek]
  refine zIconst 1 1 30 (by decide +kernel) rfl (by decide) ?_
  refine zIadd 31 (by decide +kernel) rfl ?_
  rw [nI_1]
  refine pf11_14 102 34 (by decide +kernel) rfl flX11_102 Xo ?_
  refine zAload_n 0 0 35 (by decide +kernel) rfl rfl ?_
  refine gf11_14 102 38 (by decide +kernel) rfl flX11_102 Xo ?_
  rw [zU_self]
  refine zIconst 1 1 39 (by decide +kernel) rfl (by decide) ?_
  refine zIsub 40 (by decide +kernel) rfl ?_
  rw [show nI (k + 1) - 1 = nI k from (tk_sub (b := 1) (by omega)).trans (congrArg nI (by omega))]
  refine zIret rfl (by decide +kernel) ?_
  refine hQ (zU I3 x 14 (nI (k + 1))) J3 (zU R3 x 12 (some n)) K3 (fun b j hb hj => by rw [zU_ne hj, Ib b hb]) (zU_self ..) (fun b hb => by rw [f2 b hb, zFr_off (by omega)]) (fun b j hb hj hj2 => by rw [zU_ne hj2, Rb b hb, zU_ne hj]) (by rw [zU_off (by omega), Rb _ (by omega), zU_self]) (zU_self ..) Kb ?_
  obtain ⟨s1, s2, s3, s4, s5, s6, s7⟩ := sh
  exact ⟨s1, by rw [zU_off (by omega)]; exact s2, s3, by rw [zU_off (by omega)]; exact s4, s5, by rw [zU_off (by omega)]; exact s6, s7⟩
end
