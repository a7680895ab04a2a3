/-! THE MODEL'S ROWS: painting, inspecting, days, sins, steps -/
section
variable {G : zG} {d : Nat} {I : Nat → Nat → Int32} {J : Nat → Nat → Int64} {R : Nat → Nat → Option Nat} {K : Nat → Nat × Nat} {n : Nat} {m t c b nf B nl : Nat} {Y T : Nat → Nat} {tl : Nat → Nat} {tt : Nat → Nat → Nat} {cd : Nat → List Int32} {Wc : Nat → Nat → Nat → Nat → Nat → Nat → Nat} {Q : Option Value → zH → Prop}
theorem c_canPaint (S : hMod G R K n m t c) (hb : sA G K n b 32 231) (V : VM I m nf Y) (W : okV nf Y) (C : MR I b T) (O : okT B nf Y T) {p q : Int32} (h1 : canPaint nf Y T p q → Q (some (.int 1)) (I, J, R, K, n)) (h0 : ¬ canPaint nf Y T p q → Q (some (.int 0)) (I, J, R, K, n)) : zC G (d + 3) mX12_canPaint 0 0 [.ref m, .ref b, .int p, .int q] (I, J, R, K, n) Q := by
  have h6 := W.1
  have o7 := O.2.2.2.2.2.2.1
  refine zC.of (by decide) (Nat.le_of_ble_eq_true rfl) ?_
  refine wX12_canPaint_0 m t c b hb S _ _ ?_
  rcases bad_or (N := nf) (by omega) p with hbd | ⟨f, hf, rfl⟩
  · refine c_mf_n S V.1 hbd ?_
    refine ⟨_, _, rfl, rfl, ?_⟩
    refine ⟨fun _ => h0 ?_, fun h => absurd rfl h⟩
    rintro ⟨f, k, rfl, -, hf, -⟩
    exact bad_not (by omega) hf hbd
  · refine c_mf_y S V.1 h6 hf ?_
    refine ⟨_, _, rfl, rfl, ?_⟩
    refine ⟨fun h => absurd h (by decide), fun _ => ?_⟩
    refine c_isIn32 (a := 1) (z := 9) rfl rfl (fun g1 g2 => ?_) (fun g => ?_)
    · obtain ⟨k, hk, rfl, e⟩ := tk_nat (p := q) (by omega)
      have hk1 : 1 ≤ k := by omega
      have hk9 : k ≤ 9 := by omega
      refine ⟨_, _, rfl, rfl, fun h => absurd h (by decide), fun _ => ?_⟩
      rw [show (47 : Int32).toNatClampNeg = 47 from rfl, C 47 (by omega), tk_lt (by omega) (by omega)]
      refine ⟨(tk_in (n := 47) (by omega) (by omega)).mpr (by omega), fun h => h0 ?_, fun h => ?_⟩
      · rintro ⟨f', k', -, e2, -, -, -, hl, -⟩
        rw [tk_eq (by omega) (by omega)] at e2
        omega
      · have b4 := bareA_le (T := T) W hf
        refine c_mbare S hb V W C O hf ?_
        refine ⟨_, _, rfl, rfl, ?_⟩
        by_cases hk2 : bareA Y T f < k
        · rw [if_pos ((tk_lt (by omega) (by omega)).mpr hk2)]
          refine h0 ?_
          rintro ⟨f', k', e1, e2, hf', -, h9, -, hb'⟩
          rw [tk_eq (by omega) (by omega)] at e1 e2
          subst e1; subst e2
          omega
        · rw [if_neg (fun h => hk2 ((tk_lt (by omega) (by omega)).mp h))]
          exact h1 ⟨f, k, rfl, rfl, hf, hk1, hk9, by omega, by omega⟩
    · refine ⟨_, _, rfl, rfl, fun _ => h0 ?_, fun h => absurd rfl h⟩
      rintro ⟨f', k', -, rfl, -, a1, a2, -⟩
      rw [tk_t (by omega)] at g
      exact g (by omega) (by omega)
theorem c_paints (hb : sA G K n b 32 231) (C : MR I b T) {f k : Nat} (hf : f < 6) (hl : k ≤ T 47) (hQ : ∀ I', MR I' b (daubT T f k) → (∀ j, 50 ≤ j → I' b j = I b j) → (∀ q, q ≠ b → I' q = I q) → Q none (I', J, R, K, n)) : zC G (d + 1) mX12_paints 0 0 [.ref b, .int (nI f), .int (nI k)] (I, J, R, K, n) Q := by
  refine zC.of (by decide) (Nat.le_of_ble_eq_true rfl) ?_
  refine wX12_paints_0 b hb _ _ ?_
  have a3 : (27 + 3 * nI f + 1 : Int32) = nI (28 + 3 * f) := by
    rw [show (3 : Int32) = nI 3 from rfl, pk_mul, show (27 : Int32) = nI 27 from rfl, nI_add, nI_1, show 27 + 3 * f + 1 = 28 + 3 * f by omega]
  rw [a3, tk_c (by omega), C (28 + 3 * f) (by omega), nI_add]
  refine ⟨(tk_in (by omega) (by omega)).mpr (by omega), (tk_in (by omega) (by omega)).mpr (by omega), ?_⟩
  intro I2 e2
  have C2 := C.put (k := 28 + 3 * f) (x := T (28 + 3 * f) + k)
  rw [← e2] at C2
  rw [show (47 : Int32).toNatClampNeg = 47 from rfl, C2 47 (by omega), up_ne (by omega), tk_sub hl]
  refine ⟨(tk_in (n := 47) (by omega) (by omega)).mpr (by omega), (tk_in (n := 47) (by omega) (by omega)).mpr (by omega), ?_⟩
  intro I4 e4
  have C4 := C2.put (k := 47) (x := T 47 - k)
  rw [← e4] at C4
  exact hQ I4 C4 (fun j hj => by rw [e4, zU_ne (by omega), e2, zU_ne (by omega)]) (fun q hq => by rw [e4, zU_off hq, e2, zU_off hq])
theorem c_canInspect (S : hMod G R K n m t c) (hb : sA G K n b 32 231) (V : VM I m nf Y) (W : okV nf Y) (C : MR I b T) (O : okT B nf Y T) {p : Int32} (h1 : canInspect nf T p → Q (some (.int 1)) (I, J, R, K, n)) (h0 : ¬ canInspect nf T p → Q (some (.int 0)) (I, J, R, K, n)) : zC G (d + 2) mX12_canInspect 0 0 [.ref m, .ref b, .int p] (I, J, R, K, n) Q := by
  have h6 := W.1
  refine zC.of (by decide) (Nat.le_of_ble_eq_true rfl) ?_
  refine wX12_canInspect_0 m t c b hb S _ ?_
  rcases bad_or (N := nf) (by omega) p with hbd | ⟨f, hf, rfl⟩
  · refine c_mf_n S V.1 hbd ?_
    refine ⟨_, _, rfl, rfl, ?_⟩
    rw [if_pos rfl]
    refine ⟨fun h => absurd rfl h, h0 ?_⟩
    rintro ⟨f, rfl, hf, -⟩
    exact bad_not (by omega) hf hbd
  · refine c_mf_y S V.1 h6 hf ?_
    refine ⟨_, _, rfl, rfl, ?_⟩
    have h4 := O.t W (f := f) (by omega)
    have a3 : (27 + 3 * nI f + 1 : Int32) = nI (28 + 3 * f) := by
      rw [show (3 : Int32) = nI 3 from rfl, pk_mul, show (27 : Int32) = nI 27 from rfl, nI_add, nI_1, show 27 + 3 * f + 1 = 28 + 3 * f by omega]
    rw [a3, tk_c (by omega), C (28 + 3 * f) (by omega), if_neg (by decide)]
    refine ⟨fun _ => (tk_in (by omega) (by omega)).mpr (by omega), ?_⟩
    by_cases hz : T (28 + 3 * f) = 0
    · rw [hz, if_pos (by decide)]
      refine h0 ?_
      rintro ⟨f', e, hf', h⟩
      rw [tk_eq (by omega) (by omega)] at e
      subst e
      omega
    · rw [if_neg (by rw [show (0 : Int32) = nI 0 from rfl, tk_le (by omega) (by omega)]; omega)]
      exact h1 ⟨f, rfl, hf, by omega⟩
theorem c_inspects (hb : sA G K n b 32 231) (C : MR I b T) {f : Nat} (hf : f < 6) (h48 : T 48 < 1000000) (h28 : T (28 + 3 * f) < 1000000) (hQ : ∀ I', MR I' b (thumbT T f) → (∀ j, 50 ≤ j → I' b j = I b j) → (∀ q, q ≠ b → I' q = I q) → Q (some (.int (nI (T (28 + 3 * f))))) (I', J, R, K, n)) : zC G (d + 1) mX12_inspects 0 0 [.ref b, .int (nI f)] (I, J, R, K, n) Q := by
  refine zC.of (by decide) (Nat.le_of_ble_eq_true rfl) ?_
  refine wX12_inspects_0 b hb _ ?_
  have a3 : (27 + 3 * nI f + 1 : Int32) = nI (28 + 3 * f) := by
    rw [show (3 : Int32) = nI 3 from rfl, pk_mul, show (27 : Int32) = nI 27 from rfl, nI_add, nI_1, show 27 + 3 * f + 1 = 28 + 3 * f by omega]
  rw [a3, tk_c (by omega), C (28 + 3 * f) (by omega)]
  refine ⟨(tk_in (by omega) (by omega)).mpr (by omega), (tk_in (by omega) (by omega)).mpr (by omega), ?_⟩
  intro I2 e2
  have C2 := C.put (k := 28 + 3 * f) (x := 0)
  rw [show nI 0 = 0 from rfl, ← e2] at C2
  rw [show (48 : Int32).toNatClampNeg = 48 from rfl, C2 48 (by omega), up_ne (by omega), tk_pos h48 h28]
  refine ⟨(tk_in (n := 48) (by omega) (by omega)).mpr (by omega), (tk_in (n := 48) (by omega) (by omega)).mpr (by omega), ?_⟩
  intro I4 e4
  have C4 := C2.put (k := 48) (x := T 48 - T (28 + 3 * f))
  rw [← e4] at C4
  exact hQ I4 C4 (fun j hj => by rw [e4, zU_ne (by omega), e2, zU_ne (by omega)]) (fun q hq => by rw [e4, zU_off hq, e2, zU_off hq])
theorem l_wears (S : hMod G R K n m t c) (hb : sA G K n b 32 231) (hbm : b ≠ m) (V : VM I m nf Y) (W : okV nf Y) (O : okT B nf Y T) (hQ : ∀ I', MR I' b (wearF T nf) → (∀ j, 50 ≤ j → I' b j = I b j) → (∀ q, q ≠ b → I' q = I q) → Q (some (.int (nI (cameA T nf)))) (I', J, R, K, n)) :
    ∀ (j k : Nat) (I1 : Nat → Nat → Int32), k + j = nf → MR I1 b (wearF T k) → (∀ j, 50 ≤ j → I1 b j = I b j) → (∀ q, q ≠ b → I1 q = I q) → zV G (d + 1) mX12_wears 0 0 4 [(0, .ref m), (1, .ref b), (2, .int (nI (cameA T k))), (3, .int (nI k))] [] (I1, J, R, K, n) Q := by
  have h6 := W.1
  intro j
  induction j with
  | zero =>
    intro k I1 hk C1 k1 f1
    obtain rfl : k = nf := by omega
    refine wX12_wears_4 m t c b hb S _ _ ⟨fun _ => hQ I1 C1 k1 f1, fun h => ?_⟩
    rw [f1 m (fun e => hbm e.symm), V.1] at h
    exact absurd ((tk_le (by omega) (by omega)).mpr (Nat.le_refl _)) h
  | succ j ih =>
    intro k I1 hk C1 k1 f1
    have h4 := O.t W (f := k) (by omega)
    have hc := cameA_le O W k (by omega)
    have o := O.2.2.2.2
    refine wX12_wears_4 m t c b hb S _ _ ⟨fun h => ?_, fun _ => ?_⟩
    · rw [f1 m (fun e => hbm e.symm), V.1, tk_le (by omega) (by omega)] at h
      omega
    · have a3 : (27 + 3 * nI k + 1 : Int32) = nI (28 + 3 * k) := by
        rw [show (3 : Int32) = nI 3 from rfl, pk_mul, show (27 : Int32) = nI 27 from rfl, nI_add, nI_1, show 27 + 3 * k + 1 = 28 + 3 * k by omega]
      have a4 : (27 + 3 * nI k + 0 : Int32) = nI (27 + 3 * k) := by
        rw [show (3 : Int32) = nI 3 from rfl, pk_mul, show (27 : Int32) = nI 27 from rfl, nI_add, show (0 : Int32) = nI 0 from rfl, nI_add, Nat.add_zero]
      rw [a3, a4, tk_c (by omega), tk_c (by omega), C1 (28 + 3 * k) (by omega), wearF_ne T k (by omega)]
      rw [show (nI (T (28 + 3 * k)) + 1 : Int32) / 2 = nI ((T (28 + 3 * k) + 1) / 2) by rw [nI_1, show (2 : Int32) = nI 2 from rfl, tk_div (by omega) (by omega) (by omega)], tk_sub (by omega), nI_add, nI_1]
      have hin : ∀ x, x < 231 → vp_in (nI x) 231 := fun x hx => (tk_in (by omega) (by omega)).mpr hx
      refine ⟨hin _ (by omega), hin _ (by omega), hin _ (by omega), ?_⟩
      intro I4 e4
      have C4 := C1.put (k := 28 + 3 * k) (x := T (28 + 3 * k) - (T (28 + 3 * k) + 1) / 2)
      rw [← e4] at C4
      rw [show (49 : Int32).toNatClampNeg = 49 from rfl, C4 49 (by omega), up_ne (by omega), wearF_ne T k (by omega), show (3 : Int32) = nI 3 from rfl, tk_rem (by omega) (by omega) (by omega), show (2 : Int32) = nI 2 from rfl, tk_eq (by omega) (by omega)]
      refine ⟨hin 49 (by omega), fun hm => ?_, fun hm => ?_⟩
      · rw [C4 (27 + 3 * k) (by omega), up_ne (by omega), wearF_ne T k (by omega), show (1 : Int32) = nI 1 from rfl, tk_pos (by omega) (by omega)]
        refine ⟨hin _ (by omega), hin _ (by omega), ?_⟩
        intro I8 e8
        have C8 := C4.put (k := 27 + 3 * k) (x := T (27 + 3 * k) - 1)
        rw [← e8] at C8
        refine ih (k + 1) I8 (by omega) ?_ (fun j hj => by rw [e8, zU_ne (by omega), e4, zU_ne (by omega)]; exact k1 j hj) (fun q hq => by rw [e8, zU_off hq, e4, zU_off hq]; exact f1 q hq)
        rw [wearF, if_pos hm]
        exact C8
      · refine ih (k + 1) I4 (by omega) ?_ (fun j hj => by rw [e4, zU_ne (by omega)]; exact k1 j hj) (fun q hq => by rw [e4, zU_off hq]; exact f1 q hq)
        refine C4.row (fun i _ => ?_)
        rw [wearF]
        by_cases e : i = 27 + 3 * k
        · subst e; rw [up_at, if_neg hm, up_ne (by omega), wearF_ne T k (by omega)]
        · rw [up_ne e]
theorem c_wears (S : hMod G R K n m t c) (hb : sA G K n b 32 231) (hbm : b ≠ m) (V : VM I m nf Y) (W : okV nf Y) (C : MR I b T) (O : okT B nf Y T) (hQ : ∀ I', MR I' b (wearF T nf) → (∀ j, 50 ≤ j → I' b j = I b j) → (∀ q, q ≠ b → I' q = I q) → Q (some (.int (nI (cameA T nf)))) (I', J, R, K, n)) : zC G (d + 1) mX12_wears 0 0 [.ref m, .ref b] (I, J, R, K, n) Q := by
  refine zC.of (by decide) (Nat.le_of_ble_eq_true rfl) ?_
  refine wX12_wears_0 m t c b hb S ?_
  exact l_wears S hb hbm V W O hQ nf 0 I (by omega) C (fun _ _ => rfl) (fun _ _ => rfl)
/-- what a day logs -/
def entA (nf : Nat) (Y T : Nat → Nat) (w : Nat) : Nat := if w = 0 then whitesA nf Y (wornT nf T) else if w = 1 then cameA T nf else T 47
/-- the end of a day: the log, the coins, the day's number -/
theorem day_end (hb : sA G K n b 32 231) {I0 : Nat → Nat → Int32} {j : Nat} (hj : j < 60) (W : okV nf Y) (O : okT B nf Y T) (C : MR I b (wornT nf T)) (h50 : I b 50 = nI j) (f0 : ∀ q, q ≠ b → I q = I0 q) (hQ : ∀ I', MR I' b (dayT nf Y T) → I' b 50 = nI (j + 1) → (∀ i w, i < j → w < 3 → I' b (51 + 3 * i + w) = I b (51 + 3 * i + w)) → (∀ w, w < 3 → I' b (51 + 3 * j + w) = nI (entA nf Y T w)) → (∀ q, q ≠ b → I' q = I0 q) → Q (some (.int (nI (popA (whitesA nf Y (wornT nf T)))))) (I', J, R, K, n)) :
    ((vp_in 50 231) ∧ (vp_in (51 + (3 * (I b (50 : Int32).toNatClampNeg))) 231 ∧ ∀ I25 : Nat → Nat → Int32, I25 = zU I b (51 + (3 * (I b (50 : Int32).toNatClampNeg)) : Int32).toNatClampNeg (nI (whitesA nf Y (wornT nf T))) → (vp_in ((51 + (3 * (I b (50 : Int32).toNatClampNeg))) + 1) 231 ∧ ∀ I26 : Nat → Nat → Int32, I26 = zU I25 b ((51 + (3 * (I b (50 : Int32).toNatClampNeg))) + 1 : Int32).toNatClampNeg (nI (cameA T nf)) → ((vp_in 47 231) ∧ (vp_in ((51 + (3 * (I b (50 : Int32).toNatClampNeg))) + 2) 231 ∧ ∀ I28 : Nat → Nat → Int32, I28 = zU I26 b ((51 + (3 * (I b (50 : Int32).toNatClampNeg))) + 2 : Int32).toNatClampNeg (I26 b (47 : Int32).toNatClampNeg) → ((vp_in 50 231) ∧ (vp_in 50 231 ∧ ∀ I30 : Nat → Nat → Int32, I30 = zU I28 b (50 : Int32).toNatClampNeg ((I28 b (50 : Int32).toNatClampNeg) + 1) → zC G (d + 1) mJ6_bitCount_0f7a4 0 0 [.int (nI (whitesA nf Y (wornT nf T)))] (I30, J, R, K, n) (fun r h => ∃ (x31 : Int32), r = some (.int x31) ∧ h = (I30, J, R, K, n) ∧ ((vp_in 48 231) ∧ (vp_in 48 231 ∧ ∀ I33 : Nat → Nat → Int32, I33 = zU I30 b (48 : Int32).toNatClampNeg ((if ((I30 b (48 : Int32).toNatClampNeg) + x31 : Int32) < 999 then (I30 b (48 : Int32).toNatClampNeg) + x31 else 999)) → ((vp_in 49 231) ∧ (vp_in 49 231 ∧ ∀ I35 : Nat → Nat → Int32, I35 = zU I33 b (49 : Int32).toNatClampNeg ((I33 b (49 : Int32).toNatClampNeg) + 1) → Q (some (.int (x31))) (I35, J, R, K, n))))))))))))) := by
  have h6 := W.1
  have hin : ∀ x, x < 231 → vp_in (nI x) 231 := fun x hx => (tk_in (by omega) (by omega)).mpr hx
  have hw : whitesA nf Y (wornT nf T) < 512 := Nat.lt_of_lt_of_le (bits_6 _ (by omega)) (by decide)
  have hp := popA_le (whitesA nf Y (wornT nf T))
  have o := O.2.2.2.2
  have w48 : wornT nf T 48 = T 48 := by unfold wornT; rw [up_ne (by omega), wearF_ne T nf (by omega)]
  have w49 : wornT nf T 49 = T 49 := by unfold wornT; rw [up_ne (by omega), wearF_ne T nf (by omega)]
  have w47 : wornT nf T 47 = T 47 := by unfold wornT; rw [up_ne (by omega), wearF_ne T nf (by omega)]
  have a0 : (51 + 3 * nI j : Int32) = nI (51 + 3 * j) := by rw [show (3 : Int32) = nI 3 from rfl, pk_mul, show (51 : Int32) = nI 51 from rfl, nI_add]
  have a1 : (nI (51 + 3 * j) + 1 : Int32) = nI (51 + 3 * j + 1) := nI_1 _
  have a2 : (nI (51 + 3 * j) + 2 : Int32) = nI (51 + 3 * j + 2) := nI_add (51 + 3 * j) 2
  rw [show (50 : Int32).toNatClampNeg = 50 from rfl, show (47 : Int32).toNatClampNeg = 47 from rfl, show (48 : Int32).toNatClampNeg = 48 from rfl, show (49 : Int32).toNatClampNeg = 49 from rfl, h50, a0, a1, a2, tk_c (by omega), tk_c (by omega), tk_c (by omega)]
  refine ⟨hin 50 (by omega), hin _ (by omega), ?_⟩
  intro I25 e25
  refine ⟨hin _ (by omega), ?_⟩
  intro I26 e26
  refine ⟨hin 47 (by omega), hin _ (by omega), ?_⟩
  intro I28 e28
  refine ⟨hin 50 (by omega), hin 50 (by omega), ?_⟩
  intro I30 e30
  refine c_bitCount hw ?_
  refine ⟨_, rfl, rfl, ?_⟩
  refine ⟨hin 48 (by omega), hin 48 (by omega), ?_⟩
  intro I33 e33
  refine ⟨hin 49 (by omega), hin 49 (by omega), ?_⟩
  intro I35 e35
  have r28 : ∀ k, k < 50 → I28 b k = nI (wornT nf T k) := fun k hk => by rw [e28, zU_ne (by omega), e26, zU_ne (by omega), e25, zU_ne (by omega)]; exact C k hk
  have r30 : ∀ k, k < 50 → I30 b k = nI (wornT nf T k) := fun k hk => by rw [e30, zU_ne (by omega)]; exact r28 k hk
  rw [r30 48 (by omega), w48, nI_add, show (999 : Int32) = nI 999 from rfl] at e33
  simp (disch := omega) only [tk_0, tk_1, tk_2, tk_3, tk_4, tk_5, tk_6, tk_7, tk_8, tk_9, tk_10, tk_11, tk_12, tk_13, tk_14, tk_15, tk_16, tk_20, tk_24, tk_25, tk_26, tk_27, tk_28, tk_29, tk_30, tk_31, tk_32, tk_40, tk_41, tk_45, tk_46, tk_47, tk_48, tk_49, tk_50, tk_51, tk_57, tk_60, tk_99, tk_100, tk_120, tk_128, tk_231, tk_240, tk_255, tk_500, tk_999, tk_9999, tk_10000, pk_mul, nI_add, tk_c, tk_in, tk_lt, tk_le, tk_eq, tk_and31, tk_shl1, tk_shr1, tk_and1, tk_or, tk_ite, tk_tb, tk_mn, tk_mx] at e33
  have r33 : MR I33 b (up (wornT nf T) 48 (min 999 (T 48 + popA (whitesA nf Y (wornT nf T))))) := by
    rw [e33]
    exact MR.put r30
  rw [r33 49 (by omega), up_ne (by omega), w49, nI_1] at e35
  have r35 : MR I35 b (dayT nf Y T) := by
    rw [e35]
    exact r33.put
  have e47 : I26 b 47 = nI (T 47) := by rw [e26, zU_ne (by omega), e25, zU_ne (by omega), C 47 (by omega), w47]
  have k35 : ∀ k, 50 < k → I35 b k = I28 b k := fun k hk => by rw [e35, zU_ne (by omega), e33, zU_ne (by omega), e30, zU_ne (by omega)]
  refine hQ I35 r35 ?_ (fun i w hi hw => ?_) (fun w hw => ?_) (fun q hq => ?_)
  · rw [e35, zU_ne (by omega), e33, zU_ne (by omega), e30, zU_self, e28, zU_ne (by omega), e26, zU_ne (by omega), e25, zU_ne (by omega), h50, nI_1]
  · rw [k35 _ (by omega), e28, zU_ne (by omega), e26, zU_ne (by omega), e25, zU_ne (by omega)]
  · rw [k35 _ (by omega)]
    unfold entA
    obtain rfl | rfl | rfl : w = 0 ∨ w = 1 ∨ w = 2 := by omega
    · rw [if_pos rfl, e28, zU_ne (by omega), e26, zU_ne (by omega), e25]
      exact zU_self ..
    · rw [if_neg (by decide), if_pos rfl, e28, zU_ne (by omega), e26, zU_self]
    · rw [if_neg (by decide), if_neg (by decide), e28, zU_self, e47]
  · rw [e35, zU_off hq, e33, zU_off hq, e30, zU_off hq, e28, zU_off hq, e26, zU_off hq, e25, zU_off hq, f0 q hq]
theorem c_goDay (S : hMod G R K n m t c) (hb : sA G K n b 32 231) (hbm : b = m + 13 ∨ b = m + 14) {j : Nat} (hj : j ≤ 60) (V : VM I m nf Y) (W : okV nf Y) (C : MR I b T) (O : okT B nf Y T) (h50 : I b 50 = nI j) (hQ : ∀ I' j', (j < 60 → j' = j) → (j = 60 → j' = 59) → MR I' b (dayT nf Y T) → I' b 50 = nI (j' + 1) → (∀ i w, i < j' → w < 3 → I' b (51 + 3 * i + w) = I b (51 + 3 * (i + (j - j')) + w)) → (∀ w, w < 3 → I' b (51 + 3 * j' + w) = nI (entA nf Y T w)) → (∀ q, q ≠ b → I' q = I q) → Q (some (.int (nI (popA (whitesA nf Y (wornT nf T)))))) (I', J, R, K, n)) : zC G (d + 4) mX12_goDay 0 0 [.ref m, .ref b] (I, J, R, K, n) Q := by
  have h6 := W.1
  have hin : ∀ x, x < 231 → vp_in (nI x) 231 := fun x hx => (tk_in (by omega) (by omega)).mpr hx
  have hc := cameA_le O W nf (by omega)
  have o := O.2.2.2.2
  refine zC.of (by decide) (Nat.le_of_ble_eq_true rfl) ?_
  refine wX12_goDay_0 m t c b hb S ?_
  refine c_wears S hb (by omega) V W C O ?_
  intro I2 C2 k2 f2
  refine ⟨_, _, rfl, rfl, ?_⟩
  rw [show (46 : Int32).toNatClampNeg = 46 from rfl, C2 46 (by omega), wearF_ne T nf (by omega), nI_add, show (9999 : Int32) = nI 9999 from rfl]
  refine ⟨hin 46 (by omega), hin 46 (by omega), ?_⟩
  intro I4 e4
  simp (disch := omega) only [tk_0, tk_1, tk_2, tk_3, tk_4, tk_5, tk_6, tk_7, tk_8, tk_9, tk_10, tk_11, tk_12, tk_13, tk_14, tk_15, tk_16, tk_20, tk_24, tk_25, tk_26, tk_27, tk_28, tk_29, tk_30, tk_31, tk_32, tk_40, tk_41, tk_45, tk_46, tk_47, tk_48, tk_49, tk_50, tk_51, tk_57, tk_60, tk_99, tk_100, tk_120, tk_128, tk_231, tk_240, tk_255, tk_500, tk_999, tk_9999, tk_10000, pk_mul, nI_add, tk_c, tk_in, tk_lt, tk_le, tk_eq, tk_and31, tk_shl1, tk_shr1, tk_and1, tk_or, tk_ite, tk_tb, tk_mn, tk_mx] at e4
  have C4 : MR I4 b (wornT nf T) := by
    rw [e4]
    exact C2.put
  have f4 : ∀ q, q ≠ b → I4 q = I q := fun q hq => by rw [e4, zU_off hq]; exact f2 q hq
  have k4 : ∀ k, 50 ≤ k → I4 b k = I b k := fun k hk => by rw [e4, zU_ne (by omega)]; exact k2 k hk
  have V4 : VM I4 m nf Y := by
    unfold VM
    rw [f4 m (by omega), f4 (m + 7) (by omega)]
    exact V
  refine c_mwhites S hb V4 W C4 (O.wornT W) ?_
  refine ⟨_, _, rfl, rfl, ?_⟩
  have e50 : I4 b (50 : Int32).toNatClampNeg = nI j := by rw [show (50 : Int32).toNatClampNeg = 50 from rfl, k4 50 (by omega)]; exact h50
  refine ⟨hin 50 (by omega), fun h60 => ?_, fun h60 => ?_⟩
  · rw [e50, show (60 : Int32) = nI 60 from rfl, tk_eq (by omega) (by omega)] at h60
    subst h60
    have loop : ∀ (i k : Nat) (I1 : Nat → Nat → Int32), k + i = 178 → 1 ≤ k → (∀ q, q ≠ b → I1 q = I q) → (∀ x, x < 51 → I1 b x = I4 b x) → (∀ x, 1 ≤ x → x < k → I1 b (50 + x) = I b (50 + x + 3)) → (∀ x, k ≤ x → x ≤ 180 → I1 b (50 + x) = I b (50 + x)) → zV G (d + 4) mX12_goDay 0 0 40 [(0, .ref m), (1, .ref b), (2, .int (nI (cameA T nf))), (3, .int (nI (whitesA nf Y (wornT nf T)))), (4, .int (nI k))] [] (I1, J, R, K, n) Q := by
      intro i
      induction i with
      | zero =>
        intro k I1 hk hk1 f1 r1 r2 r3
        obtain rfl : k = 178 := by omega
        refine wX12_goDay_40 m t c b hb S _ _ _ ⟨fun _ => ?_, fun h => absurd (by decide) h⟩
        refine ⟨hin 50 (by omega), hin 50 (by omega), ?_⟩
        intro I23 e23
        have d50 : I1 b (50 : Int32).toNatClampNeg = nI 60 := by rw [show (50 : Int32).toNatClampNeg = 50 from rfl, r1 50 (by omega)]; exact e50
        rw [d50, show nI 60 - 1 = nI 59 from rfl] at e23
        have g50 : I23 b 50 = nI 59 := by rw [e23]; exact zU_self ..
        refine day_end hb (I0 := I) (j := 59) (by omega) W O (fun k hk => by rw [e23, zU_ne (by rw [show (50 : Int32).toNatClampNeg = 50 from rfl]; omega), r1 k (by omega)]; exact C4 k hk) g50 (fun q hq => by rw [e23, zU_off hq]; exact f1 q hq) ?_
        intro I' a1 a2 a3 a4 a5
        refine hQ I' 59 (fun h => absurd h (by omega)) (fun _ => rfl) a1 a2 (fun i w hi hw => ?_) a4 a5
        rw [a3 i w hi hw, e23, zU_ne (by rw [show (50 : Int32).toNatClampNeg = 50 from rfl]; omega), show 51 + 3 * i + w = 50 + (1 + 3 * i + w) by omega, r2 _ (by omega) (by omega)]
        congr 1
        omega
      | succ i ih =>
        intro k I1 hk hk1 f1 r1 r2 r3
        refine wX12_goDay_40 m t c b hb S _ _ _ ⟨fun h => ?_, fun _ => ?_⟩
        · rw [show (177 : Int32) = nI 177 from rfl, tk_lt (by omega) (by omega)] at h
          omega
        · rw [show (50 + nI k : Int32) = nI (50 + k) from nI_add 50 k, show (nI (50 + k) + 3 : Int32) = nI (50 + k + 3) from nI_add (50 + k) 3, tk_c (by omega), tk_c (by omega), nI_1]
          refine ⟨hin _ (by omega), hin _ (by omega), ?_⟩
          intro I37 e37
          refine ih (k + 1) I37 (by omega) (by omega) (fun q hq => by rw [e37, zU_off hq]; exact f1 q hq) (fun x hx => by rw [e37, zU_ne (by omega)]; exact r1 x hx) (fun x h1 h2 => ?_) (fun x h1 h2 => ?_)
          · rw [e37, zU_a]
            by_cases e : x = k
            · subst e; rw [if_pos rfl, show 50 + x + 3 = 50 + (x + 3) by omega, r3 _ (by omega) (by omega)]
            · rw [if_neg (by omega)]; exact r2 x h1 (by omega)
          · rw [e37, zU_ne (by omega)]; exact r3 x (by omega) h2
    exact loop 177 1 I4 (by omega) (by omega) f4 (fun _ _ => rfl) (fun x h1 h2 => absurd h2 (by omega)) (fun x _ _ => k4 _ (by omega))
  · rw [e50, show (60 : Int32) = nI 60 from rfl, tk_eq (by omega) (by omega)] at h60
    have g50 : I4 b 50 = nI j := e50
    refine day_end hb (I0 := I) (j := j) (by omega) W O C4 g50 f4 ?_
    intro I' a1 a2 a3 a4 a5
    refine hQ I' j (fun _ => rfl) (fun h => absurd h h60) a1 a2 (fun i w hi hw => ?_) a4 a5
    rw [a3 i w hi hw, k4 _ (by omega), Nat.sub_self, Nat.add_zero]
theorem l_free (hb : sA G K n b 32 231) (C : MR I b T) (O : okT B nf Y T) : ∀ j k : Nat, k + j = 9 → Q (some (.int (nI (freeA T j k)))) (I, J, R, K, n) → zV G (d + 2) mX12_freePlace 0 0 2 [(0, .ref b), (1, .int (nI k))] [] (I, J, R, K, n) Q := by
  intro j
  induction j with
  | zero =>
    intro k hk hQ
    obtain rfl : k = 9 := by omega
    exact wX12_freePlace_2 b hb _ ⟨fun _ => hQ, fun h => absurd (by decide) h⟩
  | succ j ih =>
    intro k hk hQ
    rw [freeA] at hQ
    refine wX12_freePlace_2 b hb _ ⟨fun h => ?_, fun _ => ?_⟩
    · rw [show (9 : Int32) = nI 9 from rfl, tk_le (by omega) (by omega)] at h
      omega
    · by_cases h : T (3 * k + 2) = 0
      · rw [if_pos h] at hQ
        refine c_mo_n hb C (Or.inr ⟨k, by omega, rfl, h⟩) ?_
        refine ⟨_, _, rfl, rfl, ?_⟩
        exact ⟨fun _ => hQ, fun h => absurd rfl h⟩
      · rw [if_neg h] at hQ
        refine c_mo_y hb C O (p := k) (by omega) (by omega) ?_
        refine ⟨_, _, rfl, rfl, ?_⟩
        refine ⟨fun h => absurd h (by decide), fun _ => ?_⟩
        rw [nI_1]
        exact ih (k + 1) (by omega) hQ
theorem c_freePlace (hb : sA G K n b 32 231) (C : MR I b T) (O : okT B nf Y T) (hQ : Q (some (.int (nI (freeA T 9 0)))) (I, J, R, K, n)) : zC G (d + 2) mX12_freePlace 0 0 [.ref b] (I, J, R, K, n) Q := by
  refine zC.of (by decide) (Nat.le_of_ble_eq_true rfl) ?_
  refine wX12_freePlace_0 b hb ?_
  exact l_free hb C O 9 0 (by omega) hQ
theorem c_sins (hb : sA G K n b 32 231) (C : MR I b T) (O : okT B nf Y T) {x y z : Nat} (hf : freeA T 9 0 < 9) (hQ : ∀ I', MR I' b (sinT T (freeA T 9 0) x y z) → (∀ j, 50 ≤ j → I' b j = I b j) → (∀ q, q ≠ b → I' q = I q) → Q none (I', J, R, K, n)) : zC G (d + 3) mX12_sins 0 0 [.ref b, .int (nI x), .int (nI y), .int (nI z)] (I, J, R, K, n) Q := by
  have hin : ∀ x, x < 231 → vp_in (nI x) 231 := fun x hx => (tk_in (by omega) (by omega)).mpr hx
  refine zC.of (by decide) (Nat.le_of_ble_eq_true rfl) ?_
  refine wX12_sins_0 b hb _ _ _ ?_
  refine c_freePlace hb C O ?_
  refine ⟨_, _, rfl, rfl, ?_⟩
  generalize freeA T 9 0 = p at hf hQ ⊢
  have a0 : (3 * nI p : Int32) = nI (3 * p) := by rw [show (3 : Int32) = nI 3 from rfl, pk_mul]
  have a1 : (nI (3 * p) + 1 : Int32) = nI (3 * p + 1) := nI_1 _
  have a2 : (nI (3 * p) + 2 : Int32) = nI (3 * p + 2) := nI_add (3 * p) 2
  rw [a0, a1, a2, tk_c (by omega), tk_c (by omega), tk_c (by omega)]
  refine ⟨hin _ (by omega), ?_⟩
  intro I3 e3
  refine ⟨hin _ (by omega), ?_⟩
  intro I4 e4
  refine ⟨hin _ (by omega), ?_⟩
  intro I5 e5
  refine hQ I5 ?_ (fun j hj => by rw [e5, zU_ne (by omega), e4, zU_ne (by omega), e3, zU_ne (by omega)]) (fun q hq => by rw [e5, zU_off hq, e4, zU_off hq, e3, zU_off hq])
  rw [e5, e4, e3]
  exact ((C.put).put).put
end
