/-! THE LAW: its beginning -/
/-- what stands at first -/
def vlZ : Vt := (0, fun _ => 0, 0, fun _ => 0, 0, 0)
def stZ : Stt := (fun _ => 0, fun _ _ => 0, [], none)
def tpZ : Tpt := (0, fun _ => 0)
def lwZ : Lwt := (0, fun _ => [], 0)
def spZ : Spt := (0, fun _ => 0, fun _ _ => 0)
def sgZ : Sgt := (0, fun _ => 0)
theorem okVlZ : okVl vlZ := ⟨⟨Nat.zero_le _, fun f hf => absurd hf (Nat.not_lt_zero f)⟩, Nat.zero_le _, Nat.zero_le _, Nat.zero_le _, fun p hp => absurd hp (Nat.not_lt_zero p)⟩
theorem okTZ : okT 0 vlZ.1 vlZ.2.1 stZ.1 := ⟨fun p _ => ⟨Nat.zero_le _, fun h => absurd h (Nat.not_lt_zero 0)⟩, fun f hf => absurd hf (Nat.not_lt_zero f), fun _ _ _ => ⟨rfl, rfl⟩, fun _ _ => Nat.zero_le _, Nat.zero_le _, Nat.zero_le _, Nat.zero_le _, Nat.zero_le _, Nat.zero_le _, by decide⟩
theorem okStZ : okSt vlZ stZ 0 := ⟨okTZ, fun j hj => absurd hj (Nat.not_lt_zero j), fun y hy => by injection hy, Nat.zero_le _, fun j hj => absurd hj (Nat.not_lt_zero j), fun y hy => by injection hy⟩
section
variable {G : zG} {I : Nat → Nat → Int32} {J : Nat → Nat → Int64} {R : Nat → Nat → Option Nat} {K : Nat → Nat × Nat} {n x m : Nat}
theorem CIvZ (S : hX G R K n x (x + 4) (x + 101) (x + 108)) (hm : m = x + 112) (hn : m + 21 ≤ n) (hI : ∀ b j, x < b → b < x + 112 → I b j = if b = x + 80 ∧ j < 3 then -1 else 0) (e13 : I x 13 = 0) (e14 : I x 14 = 0) (e15 : I x 15 = -1) (e16 : I x 16 = 4) (eR : R (x + 3) 1 = none) : CIv G I R K n x m (x + 4) (x + 101) (x + 108) 0 0 0 (fun _ => 0) (fun _ => 0) vlZ stZ tpZ lwZ spZ 4 sgZ 0 := by
  have z : ∀ b j, x < b → b < x + 112 → b ≠ x + 80 → I b j = nI 0 := fun b j h1 h2 h3 => by rw [hI b j h1 h2, if_neg (fun h => h3 h.1)]; rfl
  refine ⟨S, Or.inl ⟨rfl, rfl⟩, ⟨by omega, hn, fun k hk => absurd hk (Nat.not_lt_zero k), fun k hk => absurd hk (Nat.not_lt_zero k), Or.inl rfl, by omega, fun k hk => absurd hk (Nat.not_lt_zero k), fun i j hi => absurd hi (Nat.not_lt_zero i), fun j hj => absurd hj (Nat.not_lt_zero j), fun i j hi => absurd hi (Nat.not_lt_zero i)⟩, ⟨Nat.zero_le _, z _ _ (by omega) (by omega) (by omega), fun k hk => absurd hk (Nat.not_lt_zero k)⟩, ⟨⟨z _ _ (by omega) (by omega) (by omega), fun f hf => absurd hf (Nat.not_lt_zero f)⟩, z _ _ (by omega) (by omega) (by omega), z _ _ (by omega) (by omega) (by omega), z _ _ (by omega) (by omega) (by omega), fun p hp => absurd hp (Nat.not_lt_zero p)⟩, okVlZ, ⟨fun p _ => ⟨z _ _ (by omega) (by omega) (by omega), fun h => absurd h (Nat.not_lt_zero 0)⟩, fun f _ => ⟨z _ _ (by omega) (by omega) (by omega), z _ _ (by omega) (by omega) (by omega), z _ _ (by omega) (by omega) (by omega)⟩, z _ _ (by omega) (by omega) (by omega), z _ _ (by omega) (by omega) (by omega), z _ _ (by omega) (by omega) (by omega), z _ _ (by omega) (by omega) (by omega), z _ _ (by omega) (by omega) (by omega)⟩, okStZ, ⟨Nat.zero_le _, z _ _ (by omega) (by omega) (by omega), by decide, z _ _ (by omega) (by omega) (by omega), fun j hj => absurd hj (Nat.not_lt_zero j)⟩, ⟨trivial, fun j hj => absurd hj (Nat.not_lt_zero j), Nat.zero_le _, Nat.le_refl _, Nat.zero_le _⟩, fun e w hw h1 h2 => absurd h2 (Nat.not_lt_zero e), Or.inl ⟨rfl, z _ _ (by omega) (by omega) (by omega)⟩, ⟨Nat.zero_le _, e13, fun k hk => absurd hk (Nat.not_lt_zero k), Or.inl ⟨rfl, e15, eR⟩⟩, ⟨Nat.zero_le _, e14, fun k hk => absurd hk (Nat.not_lt_zero k)⟩, ⟨Nat.zero_le _, z _ _ (by omega) (by omega) (by omega), fun i hi => absurd hi (Nat.not_lt_zero i)⟩, e16, by decide⟩
theorem MIvZ (S : hMod G R K n m (m + 1) 240) (hI : ∀ b j, m < b → b < m + 21 → I b j = 0) (e34 : I m 34 = -1) (e35 : I m 35 = 4) (e : ∀ j, j ≠ 34 → j ≠ 35 → I m j = 0) (hJ : ∀ j, J (m + 15) j = 0) : MIv G I J R K n m (m + 1) 240 (fun _ => 0) (fun _ _ => 0) vlZ stZ tpZ lwZ spZ 4 sgZ 0 := by
  have z : ∀ b j, m < b → b < m + 21 → I b j = nI 0 := fun b j h1 h2 => hI b j h1 h2
  have zm : ∀ j, j ≠ 34 → j ≠ 35 → I m j = nI 0 := e
  have zr : LR (I (m + 13)) stZ.1 stZ.2.1 := ⟨fun k _ => z _ _ (by omega) (by omega), z _ _ (by omega) (by omega), fun i w hi => absurd hi (Nat.not_lt_zero i)⟩
  refine ⟨S, ⟨⟨zm _ (by omega) (by omega), fun f hf => absurd hf (Nat.not_lt_zero f)⟩, zm _ (by omega) (by omega), fun k hk => absurd hk (Nat.not_lt_zero k), z _ _ (by omega) (by omega), z _ _ (by omega) (by omega)⟩, okVlZ, ⟨zr, zm _ (by omega) (by omega), Nat.zero_le _, fun j hj => absurd hj (Nat.not_lt_zero j), Or.inl ⟨rfl, zm _ (by omega) (by omega)⟩⟩, okStZ, ⟨Nat.zero_le _, zm _ (by omega) (by omega), fun k hk => absurd hk (Nat.not_lt_zero k)⟩, ⟨Nat.zero_le _, zm _ (by omega) (by omega), fun k hk => absurd hk (Nat.not_lt_zero k), fun k _ => by rw [z _ _ (by omega) (by omega)]; decide, fun s _ => Or.inl (hJ s)⟩, Or.inl ⟨rfl, e34⟩, ⟨Nat.zero_le _, zm _ (by omega) (by omega), fun k hk => absurd hk (Nat.not_lt_zero k)⟩, ⟨Nat.zero_le _, zm _ (by omega) (by omega), fun k hk => absurd hk (Nat.not_lt_zero k), fun i hi => absurd hi (Nat.not_lt_zero i)⟩, e35, by decide⟩
end
set_option maxHeartbeats 2000000 in
theorem law_start {G : zG} {e : Nat} {Q : Option Value → zH → Prop} {I0 : Nat → Nat → Int32} {J0 : Nat → Nat → Int64} {R0 : Nat → Nat → Option Nat} {K0 : Nat → Nat × Nat} (hL : G.2.2.2.2.2.2.1 ≤ 3072) (hQ : ∀ h, Q (some (.int 1)) h) : zV G (e + 61) mL_law 601024 7293034 0 [(0, .ref (G.2.2.2.2.2.1 3))] [] (I0, J0, R0, K0, G.1) Q := by
  obtain ⟨x, hx⟩ : ∃ x, x = G.1 := ⟨_, rfl⟩
  rw [← hx]
  refine yNew11 8 601023 7293016 3 (by decide +kernel) rfl clL_8 (by omega) (by omega) ?_
  refine zDup 4 (by decide +kernel) rfl rfl ?_
  refine zCallI mX11_init 15 0 111 3615 600912 7289401 7 [] [.ref x] okX11_init mlL_15 imX11_init rfl rfl (by decide +kernel) rfl rfl (Nat.le_of_ble_eq_true rfl) (by omega) (by omega) (zC.mono (qX11 (kc := 0) (ks := 0) (Nat.le_of_eq hx.symm) (zKr_at' rfl)) ?_)
  rintro _ _ ⟨I1, J1, R1, K1, rfl, rfl, -, S1, z1, -, a13, a14, a15, a16, -, aR, -, -, -⟩
  refine zAstore_n 1 [(1, .ref x), (0, .ref (G.2.2.2.2.2.1 3))] 8 (by decide +kernel) rfl (by decide) rfl ?_
  refine yNew12 16 600911 7289353 11 (by decide +kernel) rfl clL_16 (by omega) (by omega) ?_
  refine zDup 12 (by decide +kernel) rfl rfl ?_
  refine zCallI mX12_init 18 0 20 28010 600891 7261343 15 [] [.ref (x + 112)] okX12_init mlL_18 imX12_init rfl rfl (by decide +kernel) rfl rfl (Nat.le_of_ble_eq_true rfl) (by omega) (by omega) (zC.mono (kX12 (kc := 0) (ks := 0) (sA_new (by omega))) ?_)
  rintro _ _ ⟨rfl, rfl⟩
  obtain ⟨I3, J3, R3, K3, e3, ⟨f1, f2, f3, f4⟩, sh, zi, ⟨e34, e35, ez⟩, zj, -⟩ := fX12 (G := G) (I := zFr I1 (x + 112) 0) (J := zFr J1 (x + 112) 0) (R := zFr R1 (x + 112) none) (K := zKr K1 (x + 112) (12, 0)) (a := x + 112) (by omega) (zKr_at' rfl) (fun j => by rw [zFr_at' rfl])
  rw [e3]
  refine zAstore_n 2 [(2, .ref (x + 112)), (1, .ref x), (0, .ref (G.2.2.2.2.2.1 3))] 16 (by decide +kernel) rfl (by decide) rfl ?_
  refine zIconst 1 1 17 (by decide +kernel) rfl (by decide) ?_
  refine yNewJ 1 600890 7261342 19 (by decide +kernel) rfl (by decide) (by decide) (by decide) (by omega) (by omega) ?_
  refine zAstore_n 3 [(3, .ref (x + 112 + 1 + 20)), (2, .ref (x + 112)), (1, .ref x), (0, .ref (G.2.2.2.2.2.1 3))] 20 (by decide +kernel) rfl (by decide) rfl ?_
  refine zIconst 0 0 21 (by decide +kernel) rfl (by decide) ?_
  refine zIstore 4 [(4, .int 0), (3, .ref (x + 112 + 1 + 20)), (2, .ref (x + 112)), (1, .ref x), (0, .ref (G.2.2.2.2.2.1 3))] 23 (by decide +kernel) rfl (by decide) rfl ?_
  have Kb : ∀ b, b < x + 112 → zKr K3 (x + 112 + 1 + 20) (35, 1) b = K1 b := fun b hb => by rw [zKr_off (by omega), f4 b (by omega), zKr_off (by omega)]
  have Rb : ∀ b, b < x + 112 → zFr R3 (x + 112 + 1 + 20) none b = R1 b := fun b hb => by rw [zFr_off (by omega), f3 b hb, zFr_off (by omega)]
  have Ib : ∀ b, b < x + 112 → zFr I3 (x + 112 + 1 + 20) 0 b = I1 b := fun b hb => by rw [zFr_off (by omega), f1 b hb, zFr_off (by omega)]
  have S3 : hX G (zFr R3 (x + 112 + 1 + 20) none) (zKr K3 (x + 112 + 1 + 20) (35, 1)) (x + 112 + 1 + 20 + 1) x (x + 4) (x + 101) (x + 108) := X_mono (y := x + 112) S1 Kb (fun b hb _ => Rb b hb) (by omega) (by omega) (by omega) (by omega) (by omega) (by omega) (by omega) (by omega) (by omega) (by omega) (by omega) (by omega) (by omega) (by omega) (by omega) (by omega) (by omega) (by omega) (by omega)
  have M2 : hMod G R3 K3 (x + 112 + 1 + 20) (x + 112) (x + 112 + 1) 240 := sh
  have M3 : hMod G (zFr R3 (x + 112 + 1 + 20) none) (zKr K3 (x + 112 + 1 + 20) (35, 1)) (x + 112 + 1 + 20 + 1) (x + 112) (x + 112 + 1) 240 := Mod_mono (y := x + 112 + 1 + 20) M2 (fun b hb => zKr_off (by omega)) (fun b hb _ => zFr_off (by omega)) (by omega) (by omega)
  have C := CIvZ (I := zFr I3 (x + 112 + 1 + 20) 0) (m := x + 112) S3 rfl (by omega) (fun b j h1 h2 => by rw [Ib b h2]; exact z1 b j h1 h2) (by rw [Ib x (by omega)]; exact a13) (by rw [Ib x (by omega)]; exact a14) (by rw [Ib x (by omega)]; exact a15) (by rw [Ib x (by omega)]; exact a16) (by rw [Rb _ (by omega)]; exact aR)
  have N := MIvZ (I := zFr I3 (x + 112 + 1 + 20) 0) (J := zFr J3 (x + 112 + 1 + 20) 0) M3 (fun b j h1 h2 => by rw [zFr_off (by omega)]; exact zi b j h1 (by omega)) (by rw [zFr_off (by omega)]; exact e34) (by rw [zFr_off (by omega)]; exact e35) (fun j h1 h2 => by rw [zFr_off (by omega)]; exact ez j h1 h2) (fun j => by rw [zFr_off (by omega)]; exact zj _ j (by omega) (by omega))
  have O : hOut G (zFr R3 (x + 112 + 1 + 20) none) (zKr K3 (x + 112 + 1 + 20) (35, 1)) (x + 112 + 1 + 20 + 1) (x + 112 + 1 + 20) := ⟨by omega, by omega, zKr_at' rfl⟩
  have F := law_loop (e := e) (Q := Q) (o := x + 112 + 1 + 20) (kc := 600890) (ks := 7261342) (i := 0) (by omega) hL hQ 512 (by omega) (by omega) (by omega) (by omega) (by omega) C N O
  exact zLoc [4, 3, 2, 1, 0] _ rfl F
