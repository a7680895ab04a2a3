/-! THE FACE: score, shares, log, step, wrong -/
section
variable {G : zG} {d : Nat} {I : Nat → Nat → Int32} {J : Nat → Nat → Int64} {R : Nat → Nat → Option Nat} {K : Nat → Nat × Nat} {n : Nat} {Q : Option Value → zH → Prop}
theorem tk_pm {N : Nat} (h : N < 2147483648) : ((nI N - 1 : Int32).toInt64).toInt = (N : Int) - 1 := by
  rw [Int32.toInt_toInt64]
  by_cases e : N = 0
  · subst e; decide
  · rw [show (nI N - 1 : Int32) = nI (N - 1) from tk_sub (b := 1) (by omega), tk_t (by omega)]
    omega
theorem c_in_y {N k : Nat} {hi : Int64} (hz : hi.toInt = (N : Int) - 1) (hN : N < 2147483648) (hk : k < N) (hQ : Q (some (.int 1)) (I, J, R, K, n)) : zC G (d + 1) mX12_isIn 0 0 [.long (nI k).toInt64, .long 0, .long hi] (I, J, R, K, n) Q := by
  refine c_isIn32 (a := 0) rfl hz (fun _ _ => hQ) (fun h => absurd (h ?_ ?_) not_false)
  · rw [tk_t (by omega)]; omega
  · rw [tk_t (by omega)]; omega
theorem c_in_n {N : Nat} {p : Int32} {hi : Int64} (hz : hi.toInt = (N : Int) - 1) (hN : N < 2147483648) (hp : bad N p) (hQ : Q (some (.int 0)) (I, J, R, K, n)) : zC G (d + 1) mX12_isIn 0 0 [.long p.toInt64, .long 0, .long hi] (I, J, R, K, n) Q := by
  refine c_isIn32 (a := 0) rfl hz (fun h1 h2 => ?_) (fun _ => hQ)
  obtain ⟨k, hk, rfl, e⟩ := tk_nat h1
  exact absurd hp (bad_not hN (by omega))
/-- the class asks: below 0, or at most z -/
theorem in_of {N : Nat} {p : Int32} (hN : N < 2147483647) (h1 : ¬ p < 0) (h2 : p ≤ nI N) (hp : bad (N + 1) p) : False := by
  rcases hp with h | h
  · exact h1 h
  · rw [Int32.le_iff_toInt_le, tk_t (by omega)] at h2 h
    omega
end
section
variable {G : zG} {d : Nat} {I : Nat → Nat → Int32} {J : Nat → Nat → Int64} {R : Nat → Nat → Option Nat} {K : Nat → Nat × Nat} {n : Nat} {x m v w q nx lo M t c : Nat} {lk sq : Nat → Nat} {tl : Nat → Nat} {tt : Nat → Nat → Nat} {vl : Vt} {st : Stt} {tp : Tpt} {lw : Lwt} {sp : Spt} {ap : Nat} {sg : Sgt} {B B' : Nat} {p p2 p3 : Int32} {Q : Option Value → zH → Prop}
theorem c_xf_y (C : CIv G I R K n x m v w q nx lo M lk sq vl st tp lw sp ap sg B) {f : Nat} (hf : f < vl.1) (hQ : Q (some (.int 1)) (I, J, R, K, n)) : zC G (d + 2) mX11_isFarm 0 0 [.ref x, .int (nI f)] (I, J, R, K, n) Q := by
  refine zC.of (by decide) (Nat.le_of_ble_eq_true rfl) ?_
  refine wX11_isFarm_0 x v w q C.X _ ?_
  refine c_vf_y (Set_2 (X_26 C.X)) C.cv.1.1 C.okv.1.1 hf ?_
  refine ⟨_, _, rfl, rfl, ?_⟩
  exact ⟨Or.inr rfl, hQ⟩
theorem c_xf_n (C : CIv G I R K n x m v w q nx lo M lk sq vl st tp lw sp ap sg B) (hp : bad vl.1 p) (hQ : Q (some (.int 0)) (I, J, R, K, n)) : zC G (d + 2) mX11_isFarm 0 0 [.ref x, .int p] (I, J, R, K, n) Q := by
  refine zC.of (by decide) (Nat.le_of_ble_eq_true rfl) ?_
  refine wX11_isFarm_0 x v w q C.X _ ?_
  refine c_vf_n (Set_2 (X_26 C.X)) C.cv.1.1 hp ?_
  refine ⟨_, _, rfl, rfl, ?_⟩
  exact ⟨Or.inl rfl, hQ⟩
theorem x_score_n (C : CIv G I R K n x m v w q nx lo M lk sq vl st tp lw sp ap sg B) (hp : bad vl.1 p ∨ bad 2 p2) : XC G (d + 3) mX11_score [.ref x, .int p, .int p2] I J R K n x m (-1) vl st tp lw sp ap sg B := by
  intro Q hQ
  replace hQ := hQ I v w q nx lo M lk sq C (fun _ _ _ => rfl)
  have h6 := C.okv.1.1
  refine zC.of (by decide) (Nat.le_of_ble_eq_true rfl) ?_
  refine wX11_score_0 x v w q C.X _ _ ?_
  rcases bad_or (N := vl.1) (by omega) p with h | ⟨f, hf, rfl⟩
  · refine c_xf_n C h ?_
    refine ⟨_, _, rfl, rfl, ?_⟩
    exact ⟨fun _ => hQ, fun h => absurd rfl h⟩
  · refine c_xf_y C hf ?_
    refine ⟨_, _, rfl, rfl, ?_⟩
    exact ⟨fun h => absurd h (by decide), fun _ => ⟨fun _ => hQ, fun h1 => ⟨fun h2 => absurd (in_of (N := 1) (by decide) h1 h2 (hp.resolve_left (bad_not (by omega) hf))) not_false, fun _ => hQ⟩⟩⟩
theorem x_score_y (C : CIv G I R K n x m v w q nx lo M lk sq vl st tp lw sp ap sg B) {f k : Nat} (hf : f < vl.1) (hk : k < 2) : XC G (d + 3) mX11_score [.ref x, .int (nI f), .int (nI k)] I J R K n x m (nI (if k = 0 then byA st.1 f else toA st.1 f)) vl st tp lw sp ap sg B := by
  intro Q hQ
  replace hQ := hQ I v w q nx lo M lk sq C (fun _ _ _ => rfl)
  have h6 := C.okv.1.1
  refine zC.of (by decide) (Nat.le_of_ble_eq_true rfl) ?_
  refine wX11_score_0 x v w q C.X _ _ ?_
  refine c_xf_y C hf ?_
  refine ⟨_, _, rfl, rfl, ?_⟩
  refine ⟨fun h => absurd h (by decide), fun _ => ⟨fun h => absurd h (nI_pos (by omega)), fun _ => ⟨fun _ => ⟨fun h => ?_, fun h => ?_⟩, fun h => absurd ((tk_le (b := 1) (by omega) (by omega)).mpr (by omega)) h⟩⟩⟩
  · rw [show (0 : Int32) = nI 0 from rfl, tk_eq (by omega) (by omega)] at h
    rw [if_pos h] at hQ
    refine c_doneBy (X_5 C.X) C.okv.1 C.cs C.oks.1 (f := f) (by omega) ?_
    refine ⟨_, _, rfl, rfl, ?_⟩
    exact hQ
  · rw [show (0 : Int32) = nI 0 from rfl, tk_eq (by omega) (by omega)] at h
    rw [if_neg h] at hQ
    refine c_doneTo (X_5 C.X) C.okv.1 C.cs C.oks.1 (f := f) (by omega) ?_
    refine ⟨_, _, rfl, rfl, ?_⟩
    exact hQ
theorem l_openOf (S : hMod G R K n m t c) {nf : Nat} {Y T : Nat → Nat} (C : MR I (m + 13) T) (O : okT B nf Y T) (W : okV nf Y) {l1 : Int32} {k2 : Nat} {g : Nat → Bool} (h1 : l1 = -1 ∨ k2 < 2) (hg : ∀ p, p < 9 → 0 < T (3 * p + 2) → (g p = true ↔ (l1 = -1 ∨ nI (T (3 * p + k2)) = l1))) (h0 : ∀ p, p < 9 → T (3 * p + 2) = 0 → g p = false) (hQ : Q (some (.int (nI (bitsA g 9)))) (I, J, R, K, n)) : ∀ j k : Nat, k + j = 9 → zV G (d + 2) mX12_openOf 0 0 5 [(0, .ref m), (1, .int l1), (2, .int (nI k2)), (3, .int (nI (bitsA g k))), (4, .int (nI k))] [] (I, J, R, K, n) Q := by
  intro j
  induction j with
  | zero =>
    intro k hk
    obtain rfl : k = 9 := by omega
    exact wX12_openOf_5 m t c S _ _ _ _ ⟨fun _ => hQ, fun h => absurd (by decide) h⟩
  | succ j ih =>
    intro k hk
    refine wX12_openOf_5 m t c S _ _ _ _ ⟨fun h => ?_, fun _ => ?_⟩
    · rw [show (9 : Int32) = nI 9 from rfl, tk_le (by omega) (by omega)] at h
      omega
    by_cases ho : 0 < T (3 * k + 2)
    · refine c_mo_y (Mod_26 S) C O (p := k) (by omega) ho ?_
      refine ⟨_, _, rfl, rfl, ?_⟩
      rw [if_neg (by decide), nI_1, tk_shl k (by omega)]
      refine ⟨fun _ h => ?_, ?_⟩
      · have := h1.resolve_left h
        simp (disch := omega) only [tk_0, tk_1, tk_2, tk_3, tk_4, tk_5, tk_6, tk_7, tk_8, tk_9, tk_10, tk_11, tk_12, tk_13, tk_14, tk_15, tk_16, tk_20, tk_24, tk_25, tk_26, tk_27, tk_28, tk_29, tk_30, tk_31, tk_32, tk_40, tk_41, tk_45, tk_46, tk_47, tk_48, tk_49, tk_50, tk_51, tk_57, tk_60, tk_99, tk_100, tk_120, tk_128, tk_231, tk_240, tk_255, tk_500, tk_999, tk_9999, tk_10000, pk_mul, nI_add, tk_c, tk_in, tk_lt, tk_le, tk_eq, tk_and31, tk_shl1, tk_shr1, tk_and1, tk_or, tk_ite, tk_tb, tk_mn, tk_mx]
        omega
      · have key : (if l1 = -1 then nI (2 ^ k) else if I (m + 13) (3 * nI k + nI k2 : Int32).toNatClampNeg = l1 then nI (2 ^ k) else 0) = nI (if g k = true then 2 ^ k else 0) := by
          by_cases e : l1 = -1
          · rw [if_pos e, if_pos ((hg k (by omega) ho).mpr (Or.inl e))]
          · have := h1.resolve_left e
            rw [if_neg e, show (3 * nI k + nI k2 : Int32) = nI (3 * k + k2) by rw [show (3 : Int32) = nI 3 from rfl, pk_mul, nI_add], tk_c (by omega), C _ (by omega)]
            by_cases e2 : nI (T (3 * k + k2)) = l1
            · rw [if_pos e2, if_pos ((hg k (by omega) ho).mpr (Or.inr e2))]
            · rw [if_neg e2, if_neg (fun h => ((hg k (by omega) ho).mp h).elim e e2)]
              rfl
        rw [key, tk_or, bitsA_or (x := if g k = true then 2 ^ k else 0) (fun h => if_pos h) (fun h => if_neg (by rw [h]; decide))]
        exact ih (k + 1) (by omega)
    · refine c_mo_n (Mod_26 S) C (p := nI k) (Or.inr ⟨k, by omega, rfl, by omega⟩) ?_
      refine ⟨_, _, rfl, rfl, ?_⟩
      rw [if_pos rfl, nI_1]
      refine ⟨fun h => absurd rfl h, ?_⟩
      rw [show (0 : Int32) = nI 0 from rfl, tk_or, bitsA_or (x := 0) (fun h => absurd h (by rw [h0 k (by omega) (by omega)]; decide)) (fun h => rfl)]
      exact ih (k + 1) (by omega)
theorem c_openOf (S : hMod G R K n m t c) {nf : Nat} {Y T : Nat → Nat} (C : MR I (m + 13) T) (O : okT B nf Y T) (W : okV nf Y) {f k : Nat} (hf : f < 6) (hk : k < 2) (hQ : Q (some (.int (nI (if k = 0 then byA T f else toA T f)))) (I, J, R, K, n)) : zC G (d + 2) mX12_openOf 0 0 [.ref m, .int (nI f), .int (nI k)] (I, J, R, K, n) Q := by
  have h6 := W.1
  refine zC.of (by decide) (Nat.le_of_ble_eq_true rfl) ?_
  refine wX12_openOf_0 m t c S _ _ ?_
  by_cases e : k = 0
  · subst e
    refine l_openOf S C O W (g := fun p => openA T p && decide (T (3 * p) = f)) (Or.inr hk) (fun p hp ho => ?_) (fun p hp ho => ?_) hQ 9 0 (by omega)
    · have := (O.1 p hp).2 ho
      rw [Nat.add_zero, tk_eq (by omega) (by omega), tk_m1 (by omega)]
      simp [openA]; omega
    · simp [openA]; omega
  · obtain rfl : k = 1 := by omega
    refine l_openOf S C O W (g := fun p => openA T p && decide (T (3 * p + 1) = f)) (Or.inr hk) (fun p hp ho => ?_) (fun p hp ho => ?_) hQ 9 0 (by omega)
    · have := (O.1 p hp).2 ho
      rw [tk_eq (by omega) (by omega), tk_m1 (by omega)]
      simp [openA]; omega
    · simp [openA]; omega
theorem c_mopens (S : hMod G R K n m t c) {nf : Nat} {Y T : Nat → Nat} (C : MR I (m + 13) T) (O : okT B nf Y T) (W : okV nf Y) {k : Nat} (hQ : Q (some (.int (nI (opensA T)))) (I, J, R, K, n)) : zC G (d + 2) mX12_openOf 0 0 [.ref m, .int (-1), .int (nI k)] (I, J, R, K, n) Q := by
  refine zC.of (by decide) (Nat.le_of_ble_eq_true rfl) ?_
  refine wX12_openOf_0 m t c S _ _ ?_
  refine l_openOf S C O W (g := fun p => openA T p) (Or.inl rfl) (fun p hp ho => ?_) (fun p hp ho => ?_) hQ 9 0 (by omega)
  · simp [openA]; omega
  · simp [openA]; omega
theorem y_score_n (C : MIv G I J R K n m t c tl tt vl st tp lw sp ap sg B) (hp : bad vl.1 p ∨ bad 2 p2) : YC G (d + 2) mX12_score [.ref m, .int p, .int p2] I J R K n m t c tl tt (-1) vl st tp lw sp ap sg B := by
  intro Q hQ
  have h6 := C.okv_.1.1
  obtain ⟨M1, f1⟩ := C.z0 (y := 0)
  replace hQ := hQ _ M1 f1
  refine zC.of (by decide) (Nat.le_of_ble_eq_true rfl) ?_
  refine wX12_score_0 m t c C.S_ _ _ ?_
  rintro _ rfl
  rcases bad_or (N := vl.1) (by omega) p with h | ⟨f, hf, rfl⟩
  · refine c_mf_n C.S_ M1.v_.1.1 h ?_
    refine ⟨_, _, rfl, rfl, ?_⟩
    exact ⟨fun _ => hQ, fun h => absurd rfl h⟩
  · refine c_mf_y C.S_ M1.v_.1.1 h6 hf ?_
    refine ⟨_, _, rfl, rfl, ?_⟩
    refine ⟨fun h => absurd h (by decide), fun _ => ?_⟩
    refine c_in_n (N := 2) (by decide) (by decide) (hp.resolve_left (bad_not (by omega) hf)) ?_
    refine ⟨_, _, rfl, rfl, ?_⟩
    exact ⟨fun _ => hQ, fun h => absurd rfl h⟩
theorem y_score_y (C : MIv G I J R K n m t c tl tt vl st tp lw sp ap sg B) {f k : Nat} (hf : f < vl.1) (hk : k < 2) : YC G (d + 3) mX12_score [.ref m, .int (nI f), .int (nI k)] I J R K n m t c tl tt (nI (if k = 0 then byA st.1 f else toA st.1 f)) vl st tp lw sp ap sg B := by
  intro Q hQ
  have h6 := C.okv_.1.1
  obtain ⟨M1, f1⟩ := C.z0 (y := 0)
  replace hQ := hQ _ M1 f1
  refine zC.of (by decide) (Nat.le_of_ble_eq_true rfl) ?_
  refine wX12_score_0 m t c C.S_ _ _ ?_
  rintro _ rfl
  refine c_mf_y C.S_ M1.v_.1.1 h6 hf ?_
  refine ⟨_, _, rfl, rfl, ?_⟩
  refine ⟨fun h => absurd h (by decide), fun _ => ?_⟩
  refine c_in_y (N := 2) (by decide) (by decide) hk ?_
  refine ⟨_, _, rfl, rfl, ?_⟩
  refine ⟨fun h => absurd h (by decide), fun _ => ?_⟩
  refine c_openOf C.S_ M1.mr M1.oks_.1 M1.okv_.1 (f := f) (by omega) hk ?_
  refine ⟨_, _, rfl, rfl, ?_⟩
  exact hQ
-- shares
theorem l_sum6 {b : Nat} (hb : sA G K n b 32 6) {g : Nat → Nat} (h : ∀ f, f < 6 → I b f = nI (g f)) (hQ : Q (some (.int (nI (sumA g 6)))) (I, J, R, K, n)) : ∀ j k : Nat, k + j = 6 → zV G (d + 1) mX11_sum 0 0 4 [(0, .ref b), (1, .int (nI (sumA g k))), (2, .int (nI k))] [] (I, J, R, K, n) Q := by
  intro j
  induction j with
  | zero =>
    intro k hk
    obtain rfl : k = 6 := by omega
    exact wX11_sum_4 b 6 hb _ _ ⟨fun _ => hQ, fun h => absurd (by decide) h⟩
  | succ j ih =>
    intro k hk
    refine wX11_sum_4 b 6 hb _ _ ⟨fun h => ?_, fun _ => ⟨(tk_in (by omega) (by omega)).mpr (by omega), ?_⟩⟩
    · rw [tk_le (by omega) (by omega)] at h
      omega
    · rw [tk_c (by omega), h k (by omega), nI_add, nI_1]
      exact ih (k + 1) (by omega)
theorem c_sum {b : Nat} (hb : sA G K n b 32 6) {g : Nat → Nat} (h : ∀ f, f < 6 → I b f = nI (g f)) (hQ : Q (some (.int (nI (sumA g 6)))) (I, J, R, K, n)) : zC G (d + 1) mX11_sum 0 0 [.ref b] (I, J, R, K, n) Q := by
  refine zC.of (by decide) (Nat.le_of_ble_eq_true rfl) ?_
  refine wX11_sum_0 b 6 hb ?_
  exact l_sum6 hb h hQ 6 0 (by omega)
theorem sumA_tail {g : Nat → Nat} {nf : Nat} : ∀ j, (∀ f, nf ≤ f → f < nf + j → g f = 0) → sumA g (nf + j) = sumA g nf
  | 0, _ => rfl
  | j + 1, h => by
    show sumA g (nf + j) + g (nf + j) = _
    rw [h (nf + j) (by omega) (by omega), sumA_tail j (fun f h1 h2 => h f h1 (by omega))]
    rfl
theorem sumA_6 {g : Nat → Nat} {nf : Nat} (h6 : nf ≤ 6) (h : ∀ f, f < 6 → nf ≤ f → g f = 0) : sumA g 6 = sumA g nf := by
  have := sumA_tail (g := g) (nf := nf) (6 - nf) (fun f h1 h2 => h f (by omega) h1)
  rwa [show nf + (6 - nf) = 6 by omega] at this
def shareA (vl : Vt) (st : Stt) (f k : Nat) : Nat := if sumA (fun f => st.1 (27 + 3 * f)) vl.1 = 0 then 0 else k * st.1 (27 + 3 * f) / sumA (fun f => st.1 (27 + 3 * f)) vl.1
theorem okT.s40 {nf : Nat} {Y T : Nat → Nat} (O : okT B nf Y T) (W : okV nf Y) {nf' : Nat} (h6 : nf' ≤ 6) : sumA (fun f => T (27 + 3 * f)) nf' ≤ nf' * 40 := sumA_le2 (fun f => T (27 + 3 * f)) 40 nf' (fun j hj => by have := O.t W (f := j) (by omega); omega)
theorem x_shares_n (C : CIv G I R K n x m v w q nx lo M lk sq vl st tp lw sp ap sg B) (hp : bad vl.1 p ∨ bad 1000 p2) : XC G (d + 3) mX11_shares [.ref x, .int p, .int p2] I J R K n x m (-1) vl st tp lw sp ap sg B := by
  intro Q hQ
  replace hQ := hQ I v w q nx lo M lk sq C (fun _ _ _ => rfl)
  have h6 := C.okv.1.1
  refine zC.of (by decide) (Nat.le_of_ble_eq_true rfl) ?_
  refine wX11_shares_0 x v w q C.X _ _ ?_
  rcases bad_or (N := vl.1) (by omega) p with h | ⟨f, hf, rfl⟩
  · refine c_xf_n C h ?_
    refine ⟨_, _, rfl, rfl, ?_⟩
    exact ⟨fun _ => hQ, fun h => absurd rfl h⟩
  · refine c_xf_y C hf ?_
    refine ⟨_, _, rfl, rfl, ?_⟩
    exact ⟨fun h => absurd h (by decide), fun _ => ⟨fun _ => hQ, fun h1 => ⟨fun h2 => absurd (in_of (N := 999) (by decide) h1 h2 (hp.resolve_left (bad_not (by omega) hf))) not_false, fun _ => hQ⟩⟩⟩
theorem x_shares_y (C : CIv G I R K n x m v w q nx lo M lk sq vl st tp lw sp ap sg B) {f k : Nat} (hf : f < vl.1) (hk : k < 1000) : XC G (d + 3) mX11_shares [.ref x, .int (nI f), .int (nI k)] I J R K n x m (nI (shareA vl st f k)) vl st tp lw sp ap sg B := by
  intro Q hQ
  replace hQ := hQ I v w q nx lo M lk sq C (fun _ _ _ => rfl)
  have h6 := C.okv.1.1
  have e6 := sumA_6 (g := fun f => st.1 (27 + 3 * f)) h6 (fun f a b => (C.oks.1.2.2.1 f a b).1)
  have hs := C.oks.1.s40 C.okv.1 h6
  have ht := C.oks.1.t C.okv.1 (f := f) (by omega)
  refine zC.of (by decide) (Nat.le_of_ble_eq_true rfl) ?_
  refine wX11_shares_0 x v w q C.X _ _ ?_
  refine c_xf_y C hf ?_
  refine ⟨_, _, rfl, rfl, ?_⟩
  refine ⟨fun h => absurd h (by decide), fun _ => ⟨fun h => absurd h (nI_pos (by omega)), fun _ => ⟨fun _ => ?_, fun h => absurd ((tk_le (b := 999) (by omega) (by omega)).mpr (by omega)) h⟩⟩⟩
  refine c_sum (St_8 (X_5 C.X)) (g := fun f => st.1 (27 + 3 * f)) (fun f hf => (C.cs.2.1 f hf).1) ?_
  refine ⟨_, _, rfl, rfl, ?_⟩
  rw [e6]
  refine ⟨fun _ => (tk_in (by omega) (by omega)).mpr (by omega), fun h => h, qI ?_ hQ⟩
  unfold shareA
  generalize sumA (fun f => st.1 (27 + 3 * f)) vl.1 = s at hs ⊢
  rw [tk_c (by omega), show x + 16 = x + 12 + 4 from rfl, (C.cs.2.1 f (by omega)).1, pk_mul]
  by_cases e : s = 0
  · subst e; rfl
  · have hm := Nat.mul_le_mul (Nat.le_of_lt hk) (show st.1 (27 + 3 * f) ≤ 40 by omega)
    rw [if_neg e, if_neg (by rw [show (0 : Int32) = nI 0 from rfl, tk_eq (by omega) (by omega)]; exact e), tk_div (by omega) (by omega) (by omega)]
theorem y_shares_n (C : MIv G I J R K n m t c tl tt vl st tp lw sp ap sg B) (hp : bad vl.1 p ∨ bad 1000 p2) : YC G (d + 2) mX12_shares [.ref m, .int p, .int p2] I J R K n m t c tl tt (-1) vl st tp lw sp ap sg B := by
  intro Q hQ
  have h6 := C.okv_.1.1
  obtain ⟨M1, f1⟩ := C.z0 (y := 0)
  replace hQ := hQ _ M1 f1
  refine zC.of (by decide) (Nat.le_of_ble_eq_true rfl) ?_
  refine wX12_shares_0 m t c C.S_ _ _ ?_
  rintro _ rfl
  rcases bad_or (N := vl.1) (by omega) p with h | ⟨f, hf, rfl⟩
  · refine c_mf_n C.S_ M1.v_.1.1 h ?_
    refine ⟨_, _, rfl, rfl, ?_⟩
    exact ⟨fun _ => hQ, fun h => absurd rfl h⟩
  · refine c_mf_y C.S_ M1.v_.1.1 h6 hf ?_
    refine ⟨_, _, rfl, rfl, ?_⟩
    refine ⟨fun h => absurd h (by decide), fun _ => ?_⟩
    refine c_in_n (N := 1000) (by decide) (by decide) (hp.resolve_left (bad_not (by omega) hf)) ?_
    refine ⟨_, _, rfl, rfl, ?_⟩
    exact ⟨fun _ => hQ, fun h => absurd rfl h⟩
theorem y_shares_y (C : MIv G I J R K n m t c tl tt vl st tp lw sp ap sg B) {f k : Nat} (hf : f < vl.1) (hk : k < 1000) : YC G (d + 3) mX12_shares [.ref m, .int (nI f), .int (nI k)] I J R K n m t c tl tt (nI (shareA vl st f k)) vl st tp lw sp ap sg B := by
  intro Q hQ
  have h6 := C.okv_.1.1
  have hs := C.oks_.1.s40 C.okv_.1 h6
  have ht := C.oks_.1.t C.okv_.1 (f := f) (by omega)
  obtain ⟨M1, f1⟩ := C.z0 (y := 0)
  replace hQ := hQ _ M1 f1
  refine zC.of (by decide) (Nat.le_of_ble_eq_true rfl) ?_
  refine wX12_shares_0 m t c C.S_ _ _ ?_
  rintro _ rfl
  refine c_mf_y C.S_ M1.v_.1.1 h6 hf ?_
  refine ⟨_, _, rfl, rfl, ?_⟩
  refine ⟨fun h => absurd h (by decide), fun _ => ?_⟩
  refine c_in_y (N := 1000) (by decide) (by decide) hk ?_
  refine ⟨_, _, rfl, rfl, ?_⟩
  refine ⟨fun h => absurd h (by decide), fun _ => ?_⟩
  refine c_msum C.S_ M1.v_.1 M1.okv_.1 M1.mr (w := 0) (by omega) ?_
  refine ⟨_, _, rfl, rfl, ?_⟩
  rw [show (27 + 3 * nI f + 0 : Int32) = nI (27 + 3 * f) by rw [show (27 : Int32) = nI 27 from rfl, show (3 : Int32) = nI 3 from rfl, show (0 : Int32) = nI 0 from rfl, pk_mul, nI_add, nI_add, Nat.add_zero]]
  refine ⟨fun _ => (tk_in (by omega) (by omega)).mpr (by omega), fun h => h, qI ?_ hQ⟩
  unfold shareA
  show _ = if nI (sumA (fun f => st.1 (27 + 3 * f)) vl.1) = 0 then _ else _ / nI (sumA (fun f => st.1 (27 + 3 * f)) vl.1)
  generalize sumA (fun f => st.1 (27 + 3 * f)) vl.1 = s at hs ⊢
  rw [tk_c (by omega), M1.mr _ (by omega), pk_mul]
  by_cases e : s = 0
  · subst e; rfl
  · have hm := Nat.mul_le_mul (Nat.le_of_lt hk) (show st.1 (27 + 3 * f) ≤ 40 by omega)
    rw [if_neg e, if_neg (by rw [show (0 : Int32) = nI 0 from rfl, tk_eq (by omega) (by omega)]; exact e), tk_div (by omega) (by omega) (by omega)]
-- log
theorem x_log_n (C : CIv G I R K n x m v w q nx lo M lk sq vl st tp lw sp ap sg B) (hp : bad (min 60 (st.1 49)) p ∨ bad 3 p2) : XC G (d + 2) mX11_log [.ref x, .int p, .int p2] I J R K n x m (-1) vl st tp lw sp ap sg B := by
  intro Q hQ
  replace hQ := hQ I v w q nx lo M lk sq C (fun _ _ _ => rfl)
  have h49 := C.oks.2.2.2.1
  refine zC.of (by decide) (Nat.le_of_ble_eq_true rfl) ?_
  refine wX11_log_0 x v w q C.X _ _ ?_
  refine ⟨fun _ => hQ, fun h0 => ?_⟩
  refine c_logLength (X_5 C.X) C.cs (by omega) ?_
  refine ⟨_, _, rfl, rfl, ?_⟩
  refine ⟨fun _ => hQ, fun h1 => ⟨fun _ => hQ, fun h2 => ⟨fun h3 => ?_, fun _ => hQ⟩⟩⟩
  rcases hp with (h | h) | h
  · exact absurd h h0
  · exact absurd h h1
  · exact absurd (in_of (N := 2) (by decide) h2 h3 h) not_false
theorem x_log_y (C : CIv G I R K n x m v w q nx lo M lk sq vl st tp lw sp ap sg B) {i k : Nat} (hi : i < min 60 (st.1 49)) (hk : k < 3) : XC G (d + 2) mX11_log [.ref x, .int (nI i), .int (nI k)] I J R K n x m (nI (st.2.1 (st.1 49 - 1 - i) k)) vl st tp lw sp ap sg B := by
  intro Q hQ
  replace hQ := hQ I v w q nx lo M lk sq C (fun _ _ _ => rfl)
  have h49 := C.oks.2.2.2.1
  obtain ⟨-, -, hM, -, hlo⟩ := C.hd
  refine zC.of (by decide) (Nat.le_of_ble_eq_true rfl) ?_
  refine wX11_log_0 x v w q C.X _ _ ?_
  refine ⟨fun h => absurd h (nI_pos (by omega)), fun h0 => ?_⟩
  refine c_logLength (X_5 C.X) C.cs (by omega) ?_
  refine ⟨_, _, rfl, rfl, ?_⟩
  refine ⟨fun h => ?_, fun h1 => ⟨fun h => absurd h (nI_pos (by omega)), fun h2 => ⟨fun h3 => ?_, fun h => absurd ((tk_le (b := 2) (by omega) (by omega)).mpr (by omega)) h⟩⟩⟩
  · rw [tk_le (by omega) (by omega)] at h
    omega
  rw [C.cs.2.2.2.2.2.2, show (nI (st.1 49) - 1 : Int32) = nI (st.1 49 - 1) from tk_sub (b := 1) (by omega), tk_sub (by omega)]
  refine c_logged (X_9 C.X) hk (e := st.1 49 - 1 - i) (by omega) ?_
  refine ⟨_, _, rfl, rfl, ?_⟩
  exact qI (C.lg _ k hk (by omega) (by omega) (by omega)).symm hQ
theorem y_log_n (C : MIv G I J R K n m t c tl tt vl st tp lw sp ap sg B) (hp : bad (min 60 (st.1 49)) p ∨ bad 3 p2) : YC G (d + 2) mX12_log [.ref m, .int p, .int p2] I J R K n m t c tl tt (-1) vl st tp lw sp ap sg B := by
  intro Q hQ
  obtain ⟨M1, f1⟩ := C.z0 (y := 0)
  replace hQ := hQ _ M1 f1
  refine zC.of (by decide) (Nat.le_of_ble_eq_true rfl) ?_
  refine wX12_log_0 m t c C.S_ _ _ ?_
  rintro _ rfl
  refine ⟨(tk_in (n := 50) (by omega) (by omega)).mpr (by omega), ?_⟩
  rw [show (50 : Int32).toNatClampNeg = 50 from rfl, M1.s_.1.2.1]
  rcases bad_or (N := min 60 (st.1 49)) (by omega) p with h | ⟨i, hi, rfl⟩
  · refine c_in_n (N := min 60 (st.1 49)) (tk_pm (by omega)) (by omega) h ?_
    refine ⟨_, _, rfl, rfl, ?_⟩
    exact ⟨fun _ => hQ, fun h => absurd rfl h⟩
  · refine c_in_y (N := min 60 (st.1 49)) (tk_pm (by omega)) (by omega) hi ?_
    refine ⟨_, _, rfl, rfl, ?_⟩
    refine ⟨fun h => absurd h (by decide), fun _ => ?_⟩
    refine c_in_n (N := 3) (by decide) (by decide) (hp.resolve_left (bad_not (by omega) hi)) ?_
    refine ⟨_, _, rfl, rfl, ?_⟩
    exact ⟨fun h => absurd rfl h, fun h => absurd rfl h, qI (by rw [if_pos rfl]) hQ⟩
theorem y_log_y (C : MIv G I J R K n m t c tl tt vl st tp lw sp ap sg B) {i k : Nat} (hi : i < min 60 (st.1 49)) (hk : k < 3) : YC G (d + 2) mX12_log [.ref m, .int (nI i), .int (nI k)] I J R K n m t c tl tt (nI (st.2.1 (st.1 49 - 1 - i) k)) vl st tp lw sp ap sg B := by
  intro Q hQ
  obtain ⟨M1, f1⟩ := C.z0 (y := 0)
  replace hQ := hQ _ M1 f1
  refine zC.of (by decide) (Nat.le_of_ble_eq_true rfl) ?_
  refine wX12_log_0 m t c C.S_ _ _ ?_
  rintro _ rfl
  have hin : vp_in (50 : Int32) 231 := (tk_in (n := 50) (by omega) (by omega)).mpr (by omega)
  refine ⟨hin, ?_⟩
  rw [show (50 : Int32).toNatClampNeg = 50 from rfl, M1.s_.1.2.1]
  refine c_in_y (N := min 60 (st.1 49)) (tk_pm (by omega)) (by omega) hi ?_
  refine ⟨_, _, rfl, rfl, ?_⟩
  refine ⟨fun h => absurd h (by decide), fun _ => ?_⟩
  refine c_in_y (N := 3) (by decide) (by decide) hk ?_
  refine ⟨_, _, rfl, rfl, ?_⟩
  rw [M1.s_.1.2.1, if_neg (by decide), show (51 + 3 * (nI (min 60 (st.1 49)) - 1 - nI i) + nI k : Int32) = nI (51 + 3 * (min 60 (st.1 49) - 1 - i) + k) by rw [show (nI (min 60 (st.1 49)) - 1 : Int32) = nI (min 60 (st.1 49) - 1) from tk_sub (b := 1) (by omega), tk_sub (by omega), show (51 : Int32) = nI 51 from rfl, show (3 : Int32) = nI 3 from rfl, pk_mul, nI_add, nI_add], tk_c (by omega), M1.s_.1.2.2 _ k (by omega) hk]
  refine ⟨fun _ => hin, fun _ => (tk_in (by omega) (by omega)).mpr (by omega), qI ?_ hQ⟩
  rw [show st.1 49 - min 60 (st.1 49) + (min 60 (st.1 49) - 1 - i) = st.1 49 - 1 - i by omega]
end
