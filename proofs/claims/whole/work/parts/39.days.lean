/-! SINS, DAYS, STEPS, THE START -/
/-- the lowest place at or above k without a wrong (9: there is none) -/
def freeA (T : Nat → Nat) : Nat → Nat → Nat
  | 0, k => k
  | j + 1, k => if T (3 * k + 2) = 0 then k else freeA T j (k + 1)
theorem freeA_lo (T : Nat → Nat) : ∀ j k, k ≤ freeA T j k
  | 0, _ => Nat.le_refl _
  | j + 1, k => by
    rw [freeA]
    split
    · omega
    · exact Nat.le_trans (by omega) (freeA_lo T j (k + 1))
theorem freeA_le (T : Nat → Nat) : ∀ j k, freeA T j k ≤ k + j
  | 0, _ => Nat.le_refl _
  | j + 1, k => by
    rw [freeA]
    split
    · omega
    · exact Nat.le_trans (freeA_le T j (k + 1)) (by omega)
theorem freeA_at (T : Nat → Nat) : ∀ j k, freeA T j k < k + j → T (3 * freeA T j k + 2) = 0
  | 0, _, h => absurd h (Nat.lt_irrefl _)
  | j + 1, k, h => by
    rw [freeA] at h ⊢
    split
    · assumption
    · rename_i h1
      rw [if_neg h1] at h
      exact freeA_at T j (k + 1) (by omega)
/-- a wrong that can be done anew -/
def canSin (nf : Nat) (T : Nat → Nat) (p q r : Int32) : Prop := ∃ x y z : Nat, p = nI x ∧ q = nI y ∧ r = nI z ∧ x < nf ∧ y < nf ∧ x ≠ y ∧ 1 ≤ z ∧ z ≤ 9 ∧ freeA T 9 0 < 9
/-- a day's wear of the farms below k -/
def wearF (T : Nat → Nat) : Nat → Nat → Nat
  | 0 => T
  | k + 1 => up (up (wearF T k) (28 + 3 * k) (T (28 + 3 * k) - (T (28 + 3 * k) + 1) / 2)) (27 + 3 * k) (if T 49 % 3 = 2 then T (27 + 3 * k) - 1 else T (27 + 3 * k))
def cameA (T : Nat → Nat) (k : Nat) : Nat := sumA (fun f => (T (28 + 3 * f) + 1) / 2) k
theorem wearF_ne (T : Nat → Nat) {j : Nat} : ∀ k, (j < 27 ∨ 27 + 3 * k ≤ j) → wearF T k j = T j
  | 0, _ => rfl
  | k + 1, h => by rw [wearF, up_ne (by omega), up_ne (by omega), wearF_ne T k (by omega)]
def wornT (nf : Nat) (T : Nat → Nat) : Nat → Nat := up (wearF T nf) 46 (min 9999 (T 46 + cameA T nf))
theorem wornT_is (nf : Nat) (T : Nat → Nat) : wornT nf T = up (wearF T nf) 46 (min 9999 (T 46 + cameA T nf)) := rfl
def dayT (nf : Nat) (Y T : Nat → Nat) : Nat → Nat := up (up (wornT nf T) 48 (min 999 (T 48 + popA (whitesA nf Y (wornT nf T))))) 49 (T 49 + 1)
theorem wearF_at27 (T : Nat → Nat) : ∀ k f, wearF T k (27 + 3 * f) = if f < k then (if T 49 % 3 = 2 then T (27 + 3 * f) - 1 else T (27 + 3 * f)) else T (27 + 3 * f)
  | 0, f => by rw [if_neg (by omega)]; rfl
  | k + 1, f => by
    rw [wearF]
    by_cases e : f = k
    · subst e; rw [up_at, if_pos (show f < f + 1 by omega)]
    · rw [up_ne (by omega), up_ne (by omega), wearF_at27 T k f]
      by_cases h : f < k
      · rw [if_pos h, if_pos (show f < k + 1 by omega)]
      · rw [if_neg h, if_neg (by omega)]
theorem wearF_at28 (T : Nat → Nat) : ∀ k f, wearF T k (28 + 3 * f) = if f < k then T (28 + 3 * f) - (T (28 + 3 * f) + 1) / 2 else T (28 + 3 * f)
  | 0, f => by rw [if_neg (by omega)]; rfl
  | k + 1, f => by
    rw [wearF]
    by_cases e : f = k
    · subst e; rw [up_ne (by omega), up_at, if_pos (by omega)]
    · rw [up_ne (by omega), up_ne (by omega), wearF_at28 T k f]
      by_cases h : f < k
      · rw [if_pos h, if_pos (by omega)]
      · rw [if_neg h, if_neg (by omega)]
theorem wearF_at29 (T : Nat → Nat) : ∀ k f, wearF T k (29 + 3 * f) = T (29 + 3 * f)
  | 0, f => rfl
  | k + 1, f => by rw [wearF, up_ne (by omega), up_ne (by omega), wearF_at29 T k f]
section
variable {G : zG} {d : Nat} {I : Nat → Nat → Int32} {J : Nat → Nat → Int64} {R : Nat → Nat → Option Nat} {K : Nat → Nat × Nat} {n : Nat} {a s v nf B : Nat} {Y T : Nat → Nat} {Wc : Nat → Nat → Nat → Nat → Nat → Nat → Nat} {Q : Option Value → zH → Prop} {I' : Nat → Nat → Int32}
theorem okT.wornT (O : okT B nf Y T) (W : okV nf Y) : okT B nf Y (wornT nf T) := by
  have h6 := W.1
  obtain ⟨o1, o2, o3, o4, o5, o6, o7, o8, o9, oB⟩ := O
  rw [wornT_is]
  refine ⟨fun p hp => ?_, fun f hf => ?_, fun f hf hn => ?_, fun f hf => ?_, ?_, ?_, ?_, ?_, ?_, oB⟩
  · rw [up_ne (by omega), up_ne (by omega), up_ne (by omega), wearF_ne T nf (by omega), wearF_ne T nf (by omega), wearF_ne T nf (by omega)]
    exact o1 p hp
  · rw [up_ne (by omega), up_ne (by omega), wearF_at27, wearF_at28, if_pos hf, if_pos hf]
    have := o2 f hf
    split <;> omega
  · rw [up_ne (by omega), up_ne (by omega), wearF_at27, wearF_at28, if_neg (by omega), if_neg (by omega)]
    exact o3 f hf hn
  · rw [up_ne (by omega), wearF_at29]
    exact o4 f hf
  · rw [up_ne (by omega), wearF_ne T nf (by omega)]; exact o5
  · rw [up_at]; omega
  · rw [up_ne (by omega), wearF_ne T nf (by omega)]; exact o7
  · rw [up_ne (by omega), wearF_ne T nf (by omega)]; exact o8
  · rw [up_ne (by omega), wearF_ne T nf (by omega)]; exact o9
theorem l_offend (S : hSt G R K n a s v) (C : CS I a T) (O : okT B nf Y T) {x y z : Nat} : ∀ j k : Nat, k + j = 9 → (freeA T j k = 9 → Q (some (.int (-1))) (I, J, R, K, n)) → (freeA T j k < 9 → ∀ I', CS I' a (sinT T (freeA T j k) x y z) → Fr (aSt a) R s I I' → Q (some (.int (nI (freeA T j k)))) (I', J, R, K, n)) → zV G (d + 1) mX8_offend 0 0 48 [(0, .ref a), (1, .int (nI x)), (2, .int (nI y)), (3, .int (nI z)), (4, .ref v), (5, .int (nI k))] [] (I, J, R, K, n) Q := by
  intro j
  induction j with
  | zero =>
    intro k hk h1 h2
    obtain rfl : k = 9 := by omega
    exact wX8_offend_48 a s v S _ _ _ _ ⟨fun _ => h1 rfl, fun h => absurd (by decide) h⟩
  | succ j ih =>
    intro k hk h1 h2
    have h4 := (O.1 k (by omega)).1
    refine wX8_offend_48 a s v S _ _ _ _ ⟨fun h => ?_, fun _ => ?_⟩
    · simp (disch := omega) only [tk_0, tk_1, tk_2, tk_3, tk_4, tk_5, tk_6, tk_7, tk_8, tk_9, tk_10, tk_11, tk_12, tk_13, tk_14, tk_15, tk_16, tk_20, tk_24, tk_25, tk_26, tk_27, tk_28, tk_29, tk_30, tk_31, tk_32, tk_40, tk_41, tk_45, tk_46, tk_47, tk_48, tk_49, tk_50, tk_51, tk_57, tk_60, tk_99, tk_100, tk_120, tk_128, tk_231, tk_240, tk_255, tk_500, tk_999, tk_9999, tk_10000, pk_mul, nI_add, tk_c, tk_in, tk_lt, tk_le, tk_eq, tk_and31, tk_shl1, tk_shr1, tk_and1, tk_or, tk_ite, tk_tb, tk_mn, tk_mx] at h
      omega
    · simp (disch := omega) only [(C.1 k (by omega)).1, tk_0, tk_1, tk_2, tk_3, tk_4, tk_5, tk_6, tk_7, tk_8, tk_9, tk_10, tk_11, tk_12, tk_13, tk_14, tk_15, tk_16, tk_20, tk_24, tk_25, tk_26, tk_27, tk_28, tk_29, tk_30, tk_31, tk_32, tk_40, tk_41, tk_45, tk_46, tk_47, tk_48, tk_49, tk_50, tk_51, tk_57, tk_60, tk_99, tk_100, tk_120, tk_128, tk_231, tk_240, tk_255, tk_500, tk_999, tk_9999, tk_10000, pk_mul, nI_add, tk_c, tk_in, tk_lt, tk_le, tk_eq, tk_and31, tk_shl1, tk_shr1, tk_and1, tk_or, tk_ite, tk_tb, tk_mn, tk_mx]
      rw [freeA] at h1 h2
      refine ⟨by omega, fun h => ?_, fun h => ?_⟩
      · rw [if_pos h] at h1 h2
        refine ⟨by omega, ?_⟩
        rintro I1 rfl
        refine ⟨by omega, ?_⟩
        rintro I2 rfl
        refine ⟨by omega, ?_⟩
        rintro I3 rfl
        exact h2 (by omega) _ (C.sin (by omega)) (((Fr.rf.put ⟨by omega, by omega⟩).put ⟨by omega, by omega⟩).put ⟨by omega, by omega⟩)
      · rw [if_neg h] at h1 h2
        exact ih (k + 1) (by omega) h1 h2
theorem tk_small {N : Nat} (hN : N < 2147483648) {p : Int32} (h1 : ¬ p < 1) (h2 : p ≤ nI N) : ∃ k : Nat, 1 ≤ k ∧ k ≤ N ∧ p = nI k := by
  obtain ⟨k, hk, e⟩ : ∃ k : Nat, k ≤ N ∧ p = nI k := nI_of2 (M := nI N) (nI_toInt (by omega)) (fun h => h1 (by rw [Int32.lt_iff_toInt_lt] at h ⊢; have e : (1 : Int32).toInt = 1 := rfl; have e0 : (0 : Int32).toInt = 0 := rfl; omega)) h2
  refine ⟨k, ?_, hk, e⟩
  subst e
  rw [show (1 : Int32) = nI 1 from rfl, tk_lt (by omega) (by omega)] at h1
  omega
theorem c_offend_n (S : hSt G R K n a s v) (V : VL I v nf Y) (W : okV nf Y) (C : CS I a T) (O : okT B nf Y T) {p q r : Int32} (hp : ¬ canSin nf T p q r) (hQ : Q (some (.int (-1))) (I, J, R, K, n)) : zC G (d + 2) mX8_offend 0 0 [.ref a, .int p, .int q, .int r] (I, J, R, K, n) Q := by
  have h6 := W.1
  refine zC.of (by decide) (Nat.le_of_ble_eq_true rfl) ?_
  refine wX8_offend_0 a s v S _ _ _ ?_
  rcases bad_or (N := nf) (by omega) p with hb | ⟨x, hx, rfl⟩
  · refine c_vf_n (Set_2 (St_14 S)) V.1 hb ?_
    refine ⟨_, _, rfl, rfl, ?_⟩
    exact ⟨fun _ => hQ, fun h => absurd rfl h⟩
  · refine c_vf_y (Set_2 (St_14 S)) V.1 h6 hx ?_
    refine ⟨_, _, rfl, rfl, ?_⟩
    refine ⟨fun h => absurd h (by decide), fun _ => ?_⟩
    rcases bad_or (N := nf) (by omega) q with hb | ⟨y, hy, rfl⟩
    · refine c_vf_n (Set_2 (St_14 S)) V.1 hb ?_
      refine ⟨_, _, rfl, rfl, ?_⟩
      exact ⟨fun _ => hQ, fun h => absurd rfl h⟩
    · refine c_vf_y (Set_2 (St_14 S)) V.1 h6 hy ?_
      refine ⟨_, _, rfl, rfl, ?_⟩
      refine ⟨fun h => absurd h (by decide), fun _ => ⟨fun _ => hQ, fun h1 => ⟨fun _ => hQ, fun h2 => ⟨fun h3 => ?_, fun _ => hQ⟩⟩⟩⟩
      obtain ⟨z, z1, z9, rfl⟩ := tk_small (N := 9) (by decide) h2 h3
      refine l_offend S C O 9 0 (by omega) (fun _ => hQ) (fun h => absurd ⟨x, y, z, rfl, rfl, rfl, hx, hy, fun e => h1 (by rw [e]), z1, z9, h⟩ hp)
theorem c_offend (S : hSt G R K n a s v) (V : VL I v nf Y) (W : okV nf Y) (C : CS I a T) (O : okT B nf Y T) {x y z : Nat} (hx : x < nf) (hy : y < nf) (hxy : x ≠ y) (z1 : 1 ≤ z) (z9 : z ≤ 9) (hf : freeA T 9 0 < 9) (hQ : ∀ I', CS I' a (sinT T (freeA T 9 0) x y z) → Fr (aSt a) R s I I' → Q (some (.int (nI (freeA T 9 0)))) (I', J, R, K, n)) : zC G (d + 2) mX8_offend 0 0 [.ref a, .int (nI x), .int (nI y), .int (nI z)] (I, J, R, K, n) Q := by
  have h6 := W.1
  refine zC.of (by decide) (Nat.le_of_ble_eq_true rfl) ?_
  refine wX8_offend_0 a s v S _ _ _ ?_
  refine c_vf_y (Set_2 (St_14 S)) V.1 h6 hx ?_
  refine ⟨_, _, rfl, rfl, ?_⟩
  refine ⟨fun h => absurd h (by decide), fun _ => ?_⟩
  refine c_vf_y (Set_2 (St_14 S)) V.1 h6 hy ?_
  refine ⟨_, _, rfl, rfl, ?_⟩
  simp (disch := omega) only [tk_0, tk_1, tk_2, tk_3, tk_4, tk_5, tk_6, tk_7, tk_8, tk_9, tk_10, tk_11, tk_12, tk_13, tk_14, tk_15, tk_16, tk_20, tk_24, tk_25, tk_26, tk_27, tk_28, tk_29, tk_30, tk_31, tk_32, tk_40, tk_41, tk_45, tk_46, tk_47, tk_48, tk_49, tk_50, tk_51, tk_57, tk_60, tk_99, tk_100, tk_120, tk_128, tk_231, tk_240, tk_255, tk_500, tk_999, tk_9999, tk_10000, pk_mul, nI_add, tk_c, tk_in, tk_lt, tk_le, tk_eq, tk_and31, tk_shl1, tk_shr1, tk_and1, tk_or, tk_ite, tk_tb, tk_mn, tk_mx]
  refine ⟨fun h => absurd h (by decide), fun _ => ⟨fun h => absurd h hxy, fun _ => ⟨fun h => absurd h (by omega), fun _ => ⟨fun _ => ?_, fun h => absurd z9 h⟩⟩⟩⟩
  exact l_offend S C O 9 0 (by omega) (fun h => absurd h (by omega)) (fun _ => hQ)
theorem c_fill {b c : Nat} (hb : sA G K n b 32 c) (hc : c < 100000) {p : Int32} (hQ : ∀ I', (∀ q, q ≠ b → I' q = I q) → (∀ j, j < c → I' b j = p) → Q none (I', J, R, K, n)) : zC G (d + 1) mJ7_fill_53178 0 0 [.ref b, .int p] (I, J, R, K, n) Q := by
  refine zC.of (by decide) (Nat.le_of_ble_eq_true rfl) ?_
  refine wJ7_fill_53178_0 b c hb _ ?_
  have key : ∀ (j k : Nat) (I1 : Nat → Nat → Int32), k + j = c → (∀ q, q ≠ b → I1 q = I q) → (∀ i, i < k → I1 b i = p) → zV G (d + 1) mJ7_fill_53178 0 0 5 [(0, .ref b), (1, .int p), (2, .int (nI k)), (3, .int (nI c))] [] (I1, J, R, K, n) Q := by
    intro j
    induction j with
    | zero =>
      intro k I1 hk h1 h2
      refine wJ7_fill_53178_5 b c hb _ _ _ ⟨fun _ => hQ I1 h1 (fun i hi => h2 i (by omega)), fun h => ?_⟩
      simp (disch := omega) only [tk_0, tk_1, tk_2, tk_3, tk_4, tk_5, tk_6, tk_7, tk_8, tk_9, tk_10, tk_11, tk_12, tk_13, tk_14, tk_15, tk_16, tk_20, tk_24, tk_25, tk_26, tk_27, tk_28, tk_29, tk_30, tk_31, tk_32, tk_40, tk_41, tk_45, tk_46, tk_47, tk_48, tk_49, tk_50, tk_51, tk_57, tk_60, tk_99, tk_100, tk_120, tk_128, tk_231, tk_240, tk_255, tk_500, tk_999, tk_9999, tk_10000, pk_mul, nI_add, tk_c, tk_in, tk_lt, tk_le, tk_eq, tk_and31, tk_shl1, tk_shr1, tk_and1, tk_or, tk_ite, tk_tb, tk_mn, tk_mx] at h
      omega
    | succ j ih =>
      intro k I1 hk h1 h2
      refine wJ7_fill_53178_5 b c hb _ _ _ ⟨fun h => ?_, fun _ => ?_⟩
      · simp (disch := omega) only [tk_0, tk_1, tk_2, tk_3, tk_4, tk_5, tk_6, tk_7, tk_8, tk_9, tk_10, tk_11, tk_12, tk_13, tk_14, tk_15, tk_16, tk_20, tk_24, tk_25, tk_26, tk_27, tk_28, tk_29, tk_30, tk_31, tk_32, tk_40, tk_41, tk_45, tk_46, tk_47, tk_48, tk_49, tk_50, tk_51, tk_57, tk_60, tk_99, tk_100, tk_120, tk_128, tk_231, tk_240, tk_255, tk_500, tk_999, tk_9999, tk_10000, pk_mul, nI_add, tk_c, tk_in, tk_lt, tk_le, tk_eq, tk_and31, tk_shl1, tk_shr1, tk_and1, tk_or, tk_ite, tk_tb, tk_mn, tk_mx] at h
        omega
      · simp (disch := omega) only [tk_0, tk_1, tk_2, tk_3, tk_4, tk_5, tk_6, tk_7, tk_8, tk_9, tk_10, tk_11, tk_12, tk_13, tk_14, tk_15, tk_16, tk_20, tk_24, tk_25, tk_26, tk_27, tk_28, tk_29, tk_30, tk_31, tk_32, tk_40, tk_41, tk_45, tk_46, tk_47, tk_48, tk_49, tk_50, tk_51, tk_57, tk_60, tk_99, tk_100, tk_120, tk_128, tk_231, tk_240, tk_255, tk_500, tk_999, tk_9999, tk_10000, pk_mul, nI_add, tk_c, tk_in, tk_lt, tk_le, tk_eq, tk_and31, tk_shl1, tk_shr1, tk_and1, tk_or, tk_ite, tk_tb, tk_mn, tk_mx]
        refine ⟨by omega, ?_⟩
        rintro I2 rfl
        refine ih (k + 1) _ (by omega) (fun q hq => by rw [zU_off hq]; exact h1 q hq) (fun i hi => ?_)
        rw [zU_a]
        split
        · rfl
        · exact h2 i (by omega)
  exact key c 0 I (by omega) (fun _ _ => rfl) (fun i hi => absurd hi (by omega))
theorem sumA_mono (g : Nat → Nat) {j k : Nat} (h : j ≤ k) : sumA g j ≤ sumA g k := by
  induction k with
  | zero =>
    obtain rfl : j = 0 := by omega
    exact Nat.le_refl _
  | succ k ih =>
    by_cases e : j = k + 1
    · subst e; exact Nat.le_refl _
    · rw [sumA]; have := ih (by omega); omega
theorem cameA_le (O : okT B nf Y T) (W : okV nf Y) : ∀ k, k ≤ 6 → cameA T k ≤ k * 21
  | 0, _ => Nat.zero_le _
  | k + 1, h => by
    have h1 := cameA_le O W k (by omega)
    have h2 := O.t W (f := k) (by omega)
    unfold cameA at h1 ⊢
    rw [sumA]
    omega
theorem CS.at11 (C : CS I a T) {x : Int32} {J' : Nat → Nat → Int32} (h : J' = zU I a 11 x) : CS J' a T ∧ J' a 11 = x := by
  subst h
  exact ⟨C.f11, zU_self ..⟩
theorem l_wear (S : hSt G R K n a s v) (g : Geo a s v) (V : VL I v nf Y) (W : okV nf Y) (O : okT B nf Y T) (L : LW G R K n I s Wc) (hQ : ∀ I', CS I' a (dayT nf Y T) → I' a 11 = nI (cameA T nf) → Fr (aSt a) R s I I' → Q none (I', J, R, K, n)) :
    ∀ (j k : Nat) (I1 : Nat → Nat → Int32), k + j = nf → CS I1 a (wearF T k) → I1 a 11 = nI (cameA T k) → Fr (aSt a) R s I I1 → zV G (d + 4) mX8_wear 0 0 7 [(0, .ref a), (1, .int (nI k))] [] (I1, J, R, K, n) Q := by
  have h6 := W.1
  have hv : ∀ b, aSt a b → b < v ∨ v + 7 ≤ b := fun b hb => by have := g.2.2.1; have := g.1; unfold aSt at hb; omega
  have hv2 : v + 7 ≤ s + 8 ∨ s + 8 < v := by have := g.2.2.1; have := g.1; omega
  intro j
  induction j with
  | zero =>
    intro k I1 hk C1 c11 F1
    obtain rfl : k = nf := by omega
    have V1 := F1.vl L V hv hv2 g.2.2.2
    have hc := cameA_le O W k (by omega)
    have o := O.2.2.2.2
    refine wX8_wear_7 a s v S _ ⟨fun _ => ?_, fun h => ?_⟩
    · have c7 : I1 a 7 = nI (T 46) := by rw [C1.2.2.2.1, wearF_ne T k (by omega)]
      intro I3 e3
      rw [c7, c11] at e3
      simp (disch := omega) only [tk_0, tk_1, tk_2, tk_3, tk_4, tk_5, tk_6, tk_7, tk_8, tk_9, tk_10, tk_11, tk_12, tk_13, tk_14, tk_15, tk_16, tk_20, tk_24, tk_25, tk_26, tk_27, tk_28, tk_29, tk_30, tk_31, tk_32, tk_40, tk_41, tk_45, tk_46, tk_47, tk_48, tk_49, tk_50, tk_51, tk_57, tk_60, tk_99, tk_100, tk_120, tk_128, tk_231, tk_240, tk_255, tk_500, tk_999, tk_9999, tk_10000, pk_mul, nI_add, tk_c, tk_in, tk_lt, tk_le, tk_eq, tk_and31, tk_shl1, tk_shr1, tk_and1, tk_or, tk_ite, tk_tb, tk_mn, tk_mx] at e3
      have C3 : CS I3 a (wornT k T) := by
        rw [e3, Nat.min_comm]
        exact C1.f46
      have F3 : Fr (aSt a) R s I I3 := by rw [e3]; exact F1.put ⟨by omega, by omega⟩
      have c11' : I3 a 11 = nI (cameA T k) := by rw [e3, zU_ne (by omega)]; exact c11
      have V3 := F3.vl L V hv hv2 g.2.2.2
      have O3 := O.wornT W
      refine c_whites S V3 W C3 O3 ?_
      refine ⟨_, _, rfl, rfl, ?_⟩
      have hw : whitesA k Y (wornT k T) < 512 := Nat.lt_of_lt_of_le (bits_6 _ (by omega)) (by decide)
      have hp := popA_le (whitesA k Y (wornT k T))
      refine c_bitCount hw ?_
      refine ⟨_, rfl, rfl, ?_⟩
      have c9 : I3 a 9 = nI (T 48) := by rw [C3.2.2.2.2.2.1]; unfold wornT; rw [up_ne (by omega), wearF_ne T k (by omega)]
      intro I7 e7
      rw [c9] at e7
      simp (disch := omega) only [tk_0, tk_1, tk_2, tk_3, tk_4, tk_5, tk_6, tk_7, tk_8, tk_9, tk_10, tk_11, tk_12, tk_13, tk_14, tk_15, tk_16, tk_20, tk_24, tk_25, tk_26, tk_27, tk_28, tk_29, tk_30, tk_31, tk_32, tk_40, tk_41, tk_45, tk_46, tk_47, tk_48, tk_49, tk_50, tk_51, tk_57, tk_60, tk_99, tk_100, tk_120, tk_128, tk_231, tk_240, tk_255, tk_500, tk_999, tk_9999, tk_10000, pk_mul, nI_add, tk_c, tk_in, tk_lt, tk_le, tk_eq, tk_and31, tk_shl1, tk_shr1, tk_and1, tk_or, tk_ite, tk_tb, tk_mn, tk_mx] at e7
      have C7 := C3.f48 (x := min (T 48 + popA (whitesA k Y (wornT k T))) 999)
      have F7 := F3.put (b := a) (k := 9) (x := nI (min (T 48 + popA (whitesA k Y (wornT k T))) 999)) ⟨by omega, by omega⟩
      have c11'' : I7 a 11 = nI (cameA T k) := by rw [e7, zU_ne (by omega)]; exact c11'
      rw [← e7] at C7 F7
      intro I8 e8
      have c10 : I7 a 10 = nI (T 49) := by rw [C7.2.2.2.2.2.2, up_ne (by omega)]; unfold wornT; rw [up_ne (by omega), wearF_ne T k (by omega)]
      rw [c10, nI_1] at e8
      have C8 := C7.f49 (x := T 49 + 1)
      have F8 := F7.put (b := a) (k := 10) (x := nI (T 49 + 1)) ⟨by omega, by omega⟩
      rw [← e8] at C8 F8
      refine hQ I8 ?_ (by rw [e8, zU_ne (by omega)]; exact c11'') F8
      unfold dayT
      rw [Nat.min_comm]
      exact C8
    · simp (disch := omega) only [V1.1, tk_0, tk_1, tk_2, tk_3, tk_4, tk_5, tk_6, tk_7, tk_8, tk_9, tk_10, tk_11, tk_12, tk_13, tk_14, tk_15, tk_16, tk_20, tk_24, tk_25, tk_26, tk_27, tk_28, tk_29, tk_30, tk_31, tk_32, tk_40, tk_41, tk_45, tk_46, tk_47, tk_48, tk_49, tk_50, tk_51, tk_57, tk_60, tk_99, tk_100, tk_120, tk_128, tk_231, tk_240, tk_255, tk_500, tk_999, tk_9999, tk_10000, pk_mul, nI_add, tk_c, tk_in, tk_lt, tk_le, tk_eq, tk_and31, tk_shl1, tk_shr1, tk_and1, tk_or, tk_ite, tk_tb, tk_mn, tk_mx] at h
      omega
  | succ j ih =>
    intro k I1 hk C1 c11 F1
    have V1 := F1.vl L V hv hv2 g.2.2.2
    have h4 := O.t W (f := k) (by omega)
    have hc := cameA_le O W k (by omega)
    have c3 : I1 (a + 5) k = nI (T (28 + 3 * k)) := by rw [(C1.2.1 k (by omega)).2.1, wearF_ne T k (by omega)]
    refine wX8_wear_7 a s v S _ ⟨fun h => ?_, fun _ => ?_⟩
    · simp (disch := omega) only [V1.1, tk_0, tk_1, tk_2, tk_3, tk_4, tk_5, tk_6, tk_7, tk_8, tk_9, tk_10, tk_11, tk_12, tk_13, tk_14, tk_15, tk_16, tk_20, tk_24, tk_25, tk_26, tk_27, tk_28, tk_29, tk_30, tk_31, tk_32, tk_40, tk_41, tk_45, tk_46, tk_47, tk_48, tk_49, tk_50, tk_51, tk_57, tk_60, tk_99, tk_100, tk_120, tk_128, tk_231, tk_240, tk_255, tk_500, tk_999, tk_9999, tk_10000, pk_mul, nI_add, tk_c, tk_in, tk_lt, tk_le, tk_eq, tk_and31, tk_shl1, tk_shr1, tk_and1, tk_or, tk_ite, tk_tb, tk_mn, tk_mx] at h
      omega
    · simp (disch := omega) only [c3, tk_div, tk_sub, tk_0, tk_1, tk_2, tk_3, tk_4, tk_5, tk_6, tk_7, tk_8, tk_9, tk_10, tk_11, tk_12, tk_13, tk_14, tk_15, tk_16, tk_20, tk_24, tk_25, tk_26, tk_27, tk_28, tk_29, tk_30, tk_31, tk_32, tk_40, tk_41, tk_45, tk_46, tk_47, tk_48, tk_49, tk_50, tk_51, tk_57, tk_60, tk_99, tk_100, tk_120, tk_128, tk_231, tk_240, tk_255, tk_500, tk_999, tk_9999, tk_10000, pk_mul, nI_add, tk_c, tk_in, tk_lt, tk_le, tk_eq, tk_and31, tk_shl1, tk_shr1, tk_and1, tk_or, tk_ite, tk_tb, tk_mn, tk_mx]
      refine ⟨by omega, by omega, by omega, ?_⟩
      intro I2 e2
      have C2 := C1.false_ (f := k) (x := T (28 + 3 * k) - (T (28 + 3 * k) + 1) / 2) (by omega)
      have F2 := F1.put (b := a + 5) (k := k) (x := nI (T (28 + 3 * k) - (T (28 + 3 * k) + 1) / 2)) ⟨by omega, by omega⟩
      have c11' : I2 a 11 = nI (cameA T k) := by rw [e2, zU_off (by omega)]; exact c11
      rw [← e2] at C2 F2
      intro I3 e3
      rw [c11', nI_add] at e3
      obtain ⟨C3, d11⟩ := C2.at11 e3
      have F3 : Fr (aSt a) R s I I3 := by rw [e3]; exact F2.put ⟨by omega, by omega⟩
      have d11' : I3 a 11 = nI (cameA T (k + 1)) := d11
      have o := O.2.2.2.2
      have c10 : I3 a 10 = nI (T 49) := by rw [C3.2.2.2.2.2.2, up_ne (by omega), wearF_ne T k (by omega)]
      have c4 : I3 (a + 4) k = nI (T (27 + 3 * k)) := by rw [(C3.2.1 k (by omega)).1, up_ne (by omega), wearF_ne T k (by omega)]
      simp (disch := omega) only [c10, c4, tk_rem, tk_0, tk_1, tk_2, tk_3, tk_4, tk_5, tk_6, tk_7, tk_8, tk_9, tk_10, tk_11, tk_12, tk_13, tk_14, tk_15, tk_16, tk_20, tk_24, tk_25, tk_26, tk_27, tk_28, tk_29, tk_30, tk_31, tk_32, tk_40, tk_41, tk_45, tk_46, tk_47, tk_48, tk_49, tk_50, tk_51, tk_57, tk_60, tk_99, tk_100, tk_120, tk_128, tk_231, tk_240, tk_255, tk_500, tk_999, tk_9999, tk_10000, pk_mul, nI_add, tk_c, tk_in, tk_lt, tk_le, tk_eq, tk_and31, tk_shl1, tk_shr1, tk_and1, tk_or, tk_ite, tk_tb, tk_mn, tk_mx]
      refine ⟨fun hm => ⟨by omega, fun hz => ?_, fun hz => ⟨by omega, by omega, ?_⟩⟩, fun hm => ?_⟩
      · refine ih (k + 1) I3 (by omega) ?_ d11' F3
        refine C3.row (fun i _ => ?_)
        rw [wearF]
        by_cases e : i = 27 + 3 * k
        · subst e; rw [up_at, if_pos hm, up_ne (by omega), wearF_ne T k (by omega)]; omega
        · rw [up_ne e]
      · intro I4 e4
        rw [tk_sub (by omega)] at e4
        have C4 := C3.true_ (f := k) (x := T (27 + 3 * k) - 1) (by omega)
        have F4 := F3.put (b := a + 4) (k := k) (x := nI (T (27 + 3 * k) - 1)) ⟨by omega, by omega⟩
        have g11 : I4 a 11 = nI (cameA T (k + 1)) := by rw [e4, zU_off (by omega)]; exact d11'
        rw [← e4] at C4 F4
        refine ih (k + 1) I4 (by omega) ?_ g11 F4
        rw [wearF, if_pos hm]
        exact C4
      · refine ih (k + 1) I3 (by omega) ?_ d11' F3
        refine C3.row (fun i _ => ?_)
        rw [wearF]
        by_cases e : i = 27 + 3 * k
        · subst e; rw [up_at, if_neg hm, up_ne (by omega), wearF_ne T k (by omega)]
        · rw [up_ne e]
theorem c_wear (S : hSt G R K n a s v) (g : Geo a s v) (V : VL I v nf Y) (W : okV nf Y) (C : CS I a T) (O : okT B nf Y T) (L : LW G R K n I s Wc) (hQ : ∀ I', CS I' a (dayT nf Y T) → I' a 11 = nI (cameA T nf) → Fr (aSt a) R s I I' → Q none (I', J, R, K, n)) : zC G (d + 4) mX8_wear 0 0 [.ref a] (I, J, R, K, n) Q := by
  refine zC.of (by decide) (Nat.le_of_ble_eq_true rfl) ?_
  refine wX8_wear_0 a s v S ?_
  intro I1 e1
  obtain ⟨C1, c11⟩ := C.at11 e1
  exact l_wear S g V W O L hQ nf 0 I1 (by omega) C1 c11 (by rw [e1]; exact Fr.rf.put ⟨by omega, by omega⟩)
/-- a step that can be -/
def canStep (nf : Nat) (Y T : Nat → Nat) (k a b : Int32) : Prop := (k = 0 ∧ ¬ shut T a) ∨ (k = 1 ∧ canPaint nf Y T a b) ∨ (k = 2 ∧ canInspect nf T a) ∨ (k = 3 ∧ T 49 < 999)
def stepT (Wc : Nat → Nat → Nat → Nat → Nat → Nat → Nat) (nf : Nat) (Y T : Nat → Nat) (k a b : Int32) : Nat → Nat := if k = 0 then pardonT Wc Y T a.toNatClampNeg else if k = 1 then daubT T a.toNatClampNeg b.toNatClampNeg else if k = 2 then thumbT T a.toNatClampNeg else dayT nf Y T
def stepY (Wc : Nat → Nat → Nat → Nat → Nat → Nat → Nat) (Y T : Nat → Nat) (k a : Int32) : Nat := if k = 0 then yardsA Wc Y T a.toNatClampNeg else 0
/-- a spring's steps -/
def SS (I : Nat → Nat → Int32) (q sz : Nat) (P : Nat → Int32) : Prop := sz ≤ 16 ∧ I q 3 = nI sz ∧ ∀ i, i < sz → I (q + 1) i = P (3 * i) ∧ I (q + 2) i = P (3 * i + 1) ∧ I (q + 3) i = P (3 * i + 2) ∧ (P (3 * i) = 0 ∨ P (3 * i) = 1 ∨ P (3 * i) = 2 ∨ P (3 * i) = 3)
theorem c_take {q sz : Nat} {P : Nat → Int32} (S : hSt G R K n a s v) (g : Geo a s v) (V : VL I v nf Y) (W : okV nf Y) (C : CS I a T) (O : okT B nf Y T) (L : LW G R K n I s Wc) (Sq : hSpr G R K n q) (X : SS I q sz P) {i : Nat} (hi : i < sz) (hQ : canStep nf Y T (P (3 * i)) (P (3 * i + 1)) (P (3 * i + 2)) → ∀ I', CS I' a (stepT Wc nf Y T (P (3 * i)) (P (3 * i + 1)) (P (3 * i + 2))) → (P (3 * i) = 3 → I' a 11 = nI (cameA T nf)) → Fr (aSt a) R s I I' → Q (some (.int (nI (stepY Wc Y T (P (3 * i)) (P (3 * i + 1)))))) (I', J, R, K, n)) (hN : ¬ canStep nf Y T (P (3 * i)) (P (3 * i + 1)) (P (3 * i + 2)) → Q (some (.int (-1))) (I, J, R, K, n)) : zC G (d + 6) mX8_take 0 0 [.ref a, .ref q, .int (nI i)] (I, J, R, K, n) Q := by
  have h16 := X.1
  have o := O.2.2.2.2
  obtain ⟨x1, x2, x3, x4⟩ := X.2.2 i hi
  have hin : vp_in (nI i) 16 := (tk_in (by omega) (by omega)).mpr (by omega)
  have hcl : (nI i).toNatClampNeg = i := tk_c (by omega)
  refine zC.of (by decide) (Nat.le_of_ble_eq_true rfl) ?_
  refine wX8_take_0 a s v q S Sq _ ?_
  rw [hcl, x1, x2, x3]
  unfold canStep stepT stepY at hQ
  unfold canStep at hN
  refine ⟨hin, fun h => ⟨hin, ?_⟩, fun h => ⟨hin, hin, ?_⟩, fun h => ⟨hin, ?_⟩, fun h0 h1 h2 => ?_⟩
  · rw [h] at hQ hN
    rcases shut_or T (P (3 * i + 1)) with hs | ⟨p, hp, e, ho⟩
    · refine c_pardon_n S C O hs ?_
      refine ⟨_, _, rfl, rfl, ?_⟩
      refine hN ?_
      rintro (h | h | h | h)
      · exact h.2 hs
      · exact absurd h.1 (by decide)
      · exact absurd h.1 (by decide)
      · exact absurd h.1 (by decide)
    · rw [e] at hQ ⊢
      refine c_pardon S g V W C O L hp ho ?_
      intro I1 C1 F1
      refine ⟨_, _, rfl, rfl, ?_⟩
      have hns : ¬ shut T (nI p) := by
        rintro (hb | ⟨j, hj, e2, hz⟩)
        · exact bad_not (by omega) hp hb
        · rw [tk_eq (by omega) (by omega)] at e2
          subst e2
          omega
      have := hQ (Or.inl ⟨rfl, hns⟩) I1
      rw [if_pos rfl, if_pos rfl, tk_c (by omega)] at this
      exact this C1 (fun h => absurd h (by decide)) F1
  · rw [h] at hQ hN
    by_cases hc : canPaint nf Y T (P (3 * i + 1)) (P (3 * i + 2))
    · obtain ⟨f, k, e1, e2, hf, k1, k9, kl, kb⟩ := hc
      have hh := hQ (Or.inr (Or.inl ⟨rfl, ⟨f, k, e1, e2, hf, k1, k9, kl, kb⟩⟩))
      have h6 := W.1
      have h4 := O.t W (f := f) (by omega)
      rw [e1, e2] at hh ⊢
      refine c_daub S V W C O hf k1 k9 kl kb ?_
      intro I1 C1 F1
      refine ⟨_, _, rfl, rfl, ?_⟩
      rw [if_neg (by rw [tk_m1 (by omega)]; exact id)]
      have := hh I1
      rw [if_neg (by decide), if_pos rfl, if_neg (by decide), tk_c (by omega), tk_c (by omega)] at this
      exact this C1 (fun h => absurd h (by decide)) F1
    · refine c_daub_n S V W C O hc ?_
      refine ⟨_, _, rfl, rfl, ?_⟩
      rw [if_pos rfl]
      refine hN ?_
      rintro (h | h | h | h)
      · exact absurd h.1 (by decide)
      · exact hc h.2
      · exact absurd h.1 (by decide)
      · exact absurd h.1 (by decide)
  · rw [h] at hQ hN
    by_cases hc : canInspect nf T (P (3 * i + 1))
    · obtain ⟨f, e1, hf, k1⟩ := hc
      have hh := hQ (Or.inr (Or.inr (Or.inl ⟨rfl, ⟨f, e1, hf, k1⟩⟩)))
      have h6 := W.1
      have h4 := O.t W (f := f) (by omega)
      rw [e1] at hh ⊢
      refine c_thumb S V W C O hf k1 ?_
      intro I1 C1 F1
      refine ⟨_, _, rfl, rfl, ?_⟩
      rw [if_neg (by rw [tk_m1 (by omega)]; exact id)]
      have := hh I1
      rw [if_neg (by decide), if_neg (by decide), if_pos rfl, if_neg (by decide), tk_c (by omega)] at this
      exact this C1 (fun h => absurd h (by decide)) F1
    · refine c_thumb_n S V W C O hc ?_
      refine ⟨_, _, rfl, rfl, ?_⟩
      rw [if_pos rfl]
      refine hN ?_
      rintro (h | h | h | h)
      · exact absurd h.1 (by decide)
      · exact absurd h.1 (by decide)
      · exact hc h.2
      · exact absurd h.1 (by decide)
  · have h3 : P (3 * i) = 3 := by
      rcases x4 with h | h | h | h
      · exact absurd h h0
      · exact absurd h h1
      · exact absurd h h2
      · exact h
    rw [h3] at hQ hN
    have c10 : I a 10 = nI (T 49) := C.2.2.2.2.2.2
    simp (disch := omega) only [c10, tk_0, tk_1, tk_2, tk_3, tk_4, tk_5, tk_6, tk_7, tk_8, tk_9, tk_10, tk_11, tk_12, tk_13, tk_14, tk_15, tk_16, tk_20, tk_24, tk_25, tk_26, tk_27, tk_28, tk_29, tk_30, tk_31, tk_32, tk_40, tk_41, tk_45, tk_46, tk_47, tk_48, tk_49, tk_50, tk_51, tk_57, tk_60, tk_99, tk_100, tk_120, tk_128, tk_231, tk_240, tk_255, tk_500, tk_999, tk_9999, tk_10000, pk_mul, nI_add, tk_c, tk_in, tk_lt, tk_le, tk_eq, tk_and31, tk_shl1, tk_shr1, tk_and1, tk_or, tk_ite, tk_tb, tk_mn, tk_mx]
    refine ⟨fun hd => ?_, fun hd => hN ?_⟩
    · have hh := hQ (Or.inr (Or.inr (Or.inr ⟨rfl, hd⟩)))
      refine c_wear S g V W C O L ?_
      intro I1 C1 c1 F1
      refine ⟨_, rfl, rfl, ?_⟩
      have := hh I1
      rw [if_neg (by decide), if_neg (by decide), if_neg (by decide), if_neg (by decide)] at this
      exact this C1 (fun _ => c1) F1
    · rintro (h | h | h | h)
      · exact absurd h.1 (by decide)
      · exact absurd h.1 (by decide)
      · exact absurd h.1 (by decide)
      · exact hd h.2
end
