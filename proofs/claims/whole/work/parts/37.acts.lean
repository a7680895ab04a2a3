/-! THE CLASS'S STATE: what it changes -/
def popA (s : Nat) : Nat := sumA (fun j => if s.testBit j then 1 else 0) 9
def bc1 (p : Int32) : Int32 := p - (((p.toUInt32 >>> ((1 : Int32).toUInt32 &&& Int32.toUInt32 31)).toInt32) &&& 1431655765)
def bc2 (p : Int32) : Int32 := (p &&& 858993459) + (((p.toUInt32 >>> ((2 : Int32).toUInt32 &&& Int32.toUInt32 31)).toInt32) &&& 858993459)
def bc3 (p : Int32) : Int32 := (p + ((p.toUInt32 >>> ((4 : Int32).toUInt32 &&& Int32.toUInt32 31)).toInt32)) &&& 252645135
def bc4 (p : Int32) : Int32 := p + ((p.toUInt32 >>> ((8 : Int32).toUInt32 &&& Int32.toUInt32 31)).toInt32)
def bc5 (p : Int32) : Int32 := p + ((p.toUInt32 >>> ((16 : Int32).toUInt32 &&& Int32.toUInt32 31)).toInt32)
def bcI (p : Int32) : Int32 := bc5 (bc4 (bc3 (bc2 (bc1 p)))) &&& 63
theorem bc_dec : ∀ s : Nat, s < 512 → nI (popA s) = bcI (nI s) := by decide +kernel
theorem sumA_le (g : Nat → Nat) (b : Nat) (h : ∀ j, g j ≤ b) : ∀ k, sumA g k ≤ k * b
  | 0 => Nat.zero_le _
  | k + 1 => by rw [sumA, Nat.add_mul, Nat.one_mul]; exact Nat.add_le_add (sumA_le g b h k) (h k)
theorem popA_le (s : Nat) : popA s ≤ 9 := sumA_le _ 1 (fun j => by split <;> omega) 9
def paintT (Wc : Nat → Nat → Nat → Nat → Nat → Nat → Nat) (Y T : Nat → Nat) (p : Nat) : Nat → Nat :=
  up (up (up T (27 + 3 * T (3 * p + 1)) (T (27 + 3 * T (3 * p + 1)) + yardsA Wc Y T p)) 47 (T 47 - yardsA Wc Y T p)) (29 + 3 * T (3 * p)) (T (29 + 3 * T (3 * p)) + 1)
def pardonT (Wc : Nat → Nat → Nat → Nat → Nat → Nat → Nat) (Y T : Nat → Nat) (p : Nat) : Nat → Nat := up (zeroT (paintT Wc Y T p) p) 45 (min 999 (T 45 + 1))
theorem tk_monus {a b : Nat} (ha : a < 1000000) (hb : b < 1000000) : (if nI a - nI b < nI 0 then nI 0 else nI a - nI b) = nI (a - b) := by
  by_cases h : b ≤ a
  · rw [tk_sub h]; exact if_neg (nI_pos (by omega))
  · rw [show a - b = 0 by omega]; exact if_pos (pk_sneg (by omega) (by omega))
def bad (N : Nat) (p : Int32) : Prop := p < 0 ∨ nI N ≤ p
theorem bad_or {N : Nat} (hN : N < 2147483648) (p : Int32) : bad N p ∨ ∃ j : Nat, j < N ∧ p = nI j := by
  rcases pk_ix p (n := N) (by omega) with h | h | h
  · exact Or.inl (Or.inl h)
  · exact Or.inl (Or.inr h)
  · exact Or.inr h
theorem bad_not {N j : Nat} (hN : N < 2147483648) (hj : j < N) : ¬ bad N (nI j) := by
  rintro (h | h)
  · exact nI_pos (by omega) h
  · rw [tk_le (by omega) (by omega)] at h
    omega
section
variable {G : zG} {d : Nat} {I : Nat → Nat → Int32} {J : Nat → Nat → Int64} {R : Nat → Nat → Option Nat} {K : Nat → Nat × Nat} {n : Nat} {a s v nf B : Nat} {Y T : Nat → Nat} {Wc : Nat → Nat → Nat → Nat → Nat → Nat → Nat} {Q : Option Value → zH → Prop} {I' : Nat → Nat → Int32}
theorem c_bitCount {s : Nat} (hs : s < 512) (hQ : Q (some (.int (nI (popA s)))) (I, J, R, K, n)) : zC G (d + 1) mJ6_bitCount_0f7a4 0 0 [.int (nI s)] (I, J, R, K, n) Q := by
  refine zC.of (by decide) (Nat.le_of_ble_eq_true rfl) ?_
  refine wJ6_bitCount_0f7a4_0 _ ?_
  exact qI (bc_dec s hs) hQ
theorem c_vf_y (S : hVil G R K n v) (V : I v 5 = nI nf) (h6 : nf ≤ 6) {f : Nat} (hf : f < nf) (hQ : Q (some (.int 1)) (I, J, R, K, n)) : zC G (d + 1) mX10_isFarm 0 0 [.ref v, .int (nI f)] (I, J, R, K, n) Q := by
  refine zC.of (by decide) (Nat.le_of_ble_eq_true rfl) ?_
  refine wX10_isFarm_0 v S _ ?_
  rw [V, if_neg (nI_pos (by omega)), if_neg (by rw [tk_le (by omega) (by omega)]; omega)]
  exact hQ
theorem c_vf_n (S : hVil G R K n v) (V : I v 5 = nI nf) {p : Int32} (hp : bad nf p) (hQ : Q (some (.int 0)) (I, J, R, K, n)) : zC G (d + 1) mX10_isFarm 0 0 [.ref v, .int p] (I, J, R, K, n) Q := by
  refine zC.of (by decide) (Nat.le_of_ble_eq_true rfl) ?_
  refine wX10_isFarm_0 v S _ ?_
  rw [V]
  rcases hp with h | h
  · rw [if_pos h]; exact hQ
  · rw [if_pos h, ite_self]; exact hQ
theorem yardsA_le {p : Nat} : yardsA Wc Y T p ≤ bareA Y T (T (3 * p + 1)) ∧ yardsA Wc Y T p ≤ T 47 := by
  unfold yardsA
  omega
theorem c_paintOff (S : hSt G R K n a s v) (g : Geo a s v) (V : VL I v nf Y) (W : okV nf Y) (C : CS I a T) (O : okT B nf Y T) (L : LW G R K n I s Wc) {p : Nat} (hp : p < 9) (ho : 0 < T (3 * p + 2)) (hQ : ∀ I', CS I' a (paintT Wc Y T p) → Fr (aSt a) R s I I' → Q (some (.int (nI (yardsA Wc Y T p)))) (I', J, R, K, n)) : zC G (d + 4) mX8_paintOff 0 0 [.ref a, .int (nI p)] (I, J, R, K, n) Q := by
  have h6 := W.1
  obtain ⟨o2, o3, -⟩ := (O.1 p hp).2 ho
  refine zC.of (by decide) (Nat.le_of_ble_eq_true rfl) ?_
  refine wX8_paintOff_0 a s v S _ ?_
  refine c_yardsOf S g V W C O L hp ho ?_
  intro I1 F1
  refine ⟨_, _, rfl, rfl, ?_⟩
  have C1 := F1.cs L C (fun _ h => absurd h id) g.1 g.2.1
  obtain ⟨c2, c3⟩ := (C1.1 p hp).2 ho
  have hy := yardsA_le (Wc := Wc) (Y := Y) (T := T) (p := p)
  simp (disch := omega) only [c3, (C1.2.1 _ (show T (3 * p + 1) < 6 by omega)).1, tk_0, tk_1, tk_2, tk_3, tk_4, tk_5, tk_6, tk_7, tk_8, tk_9, tk_10, tk_11, tk_12, tk_13, tk_14, tk_15, tk_16, tk_20, tk_24, tk_25, tk_26, tk_27, tk_28, tk_29, tk_30, tk_31, tk_32, tk_40, tk_41, tk_45, tk_46, tk_47, tk_48, tk_49, tk_50, tk_51, tk_57, tk_60, tk_99, tk_100, tk_120, tk_128, tk_231, tk_240, tk_255, tk_500, tk_999, tk_9999, tk_10000, pk_mul, nI_add, tk_c, tk_in, tk_lt, tk_le, tk_eq, tk_and31, tk_shl1, tk_shr1, tk_and1, tk_or, tk_ite, tk_tb, tk_mn, tk_mx]
  refine ⟨by omega, by omega, by omega, ?_⟩
  rintro I2 rfl
  have C2 := C1.true_ (f := T (3 * p + 1)) (x := T (27 + 3 * T (3 * p + 1)) + yardsA Wc Y T p) (by omega)
  have F2 : Fr (aSt a) R s I _ := (F1.wide (A' := aSt a) (fun _ h => absurd h id)).put (b := a + 4) (k := T (3 * p + 1)) (x := nI (T (27 + 3 * T (3 * p + 1)) + yardsA Wc Y T p)) ⟨by omega, by omega⟩
  revert C2 F2
  generalize zU I1 (a + 4) (T (3 * p + 1)) (nI (T (27 + 3 * T (3 * p + 1)) + yardsA Wc Y T p)) = I2
  intro C2 F2
  rintro I3 rfl
  have c7 : I2 a 8 = nI (T 47) := by rw [C2.2.2.2.2.1, up_ne (by omega)]
  rw [c7, tk_sub hy.2]
  have C3 := C2.f47 (x := T 47 - yardsA Wc Y T p)
  have F3 := F2.put (b := a) (k := 8) (x := nI (T 47 - yardsA Wc Y T p)) ⟨by omega, by omega⟩
  revert C3 F3
  generalize zU I2 a 8 (nI (T 47 - yardsA Wc Y T p)) = I3
  intro C3 F3
  have c4 : I3 (a + 1) p = nI (T (3 * p)) := by
    have h := ((C3.1 p hp).2 (by rw [up_ne (by omega), up_ne (by omega)]; exact ho)).1
    rw [up_ne (by omega), up_ne (by omega)] at h
    exact h
  have c5 : I3 (a + 6) (T (3 * p)) = nI (T (29 + 3 * T (3 * p))) := by
    have h := (C3.2.1 (T (3 * p)) (by omega)).2.2
    rw [up_ne (by omega), up_ne (by omega)] at h
    exact h
  simp (disch := omega) only [c4, c5, tk_0, tk_1, tk_2, tk_3, tk_4, tk_5, tk_6, tk_7, tk_8, tk_9, tk_10, tk_11, tk_12, tk_13, tk_14, tk_15, tk_16, tk_20, tk_24, tk_25, tk_26, tk_27, tk_28, tk_29, tk_30, tk_31, tk_32, tk_40, tk_41, tk_45, tk_46, tk_47, tk_48, tk_49, tk_50, tk_51, tk_57, tk_60, tk_99, tk_100, tk_120, tk_128, tk_231, tk_240, tk_255, tk_500, tk_999, tk_9999, tk_10000, pk_mul, nI_add, tk_c, tk_in, tk_lt, tk_le, tk_eq, tk_and31, tk_shl1, tk_shr1, tk_and1, tk_or, tk_ite, tk_tb, tk_mn, tk_mx]
  refine ⟨by omega, by omega, by omega, ?_⟩
  rintro I4 rfl
  have C4 := C3.forg (f := T (3 * p)) (x := T (29 + 3 * T (3 * p)) + 1) (by omega)
  exact hQ _ C4 (F3.put ⟨by omega, by omega⟩)
theorem paintT_back {p : Nat} (h1 : T (3 * p) < 6) (h2 : T (3 * p + 1) < 6) : up (up (up (paintT Wc Y T p) (27 + 3 * T (3 * p + 1)) (paintT Wc Y T p (27 + 3 * T (3 * p + 1)) - yardsA Wc Y T p)) 47 (paintT Wc Y T p 47 + yardsA Wc Y T p)) (29 + 3 * T (3 * p)) (paintT Wc Y T p (29 + 3 * T (3 * p)) - 1) = T := by
  have hy := yardsA_le (Wc := Wc) (Y := Y) (T := T) (p := p)
  funext j
  unfold paintT
  by_cases e1 : j = 29 + 3 * T (3 * p)
  · subst e1; rw [up_at, up_at]; omega
  · rw [up_ne e1]
    by_cases e2 : j = 47
    · subst e2; rw [up_at, up_ne (by omega), up_at]; omega
    · rw [up_ne e2]
      by_cases e3 : j = 27 + 3 * T (3 * p + 1)
      · subst e3; rw [up_at, up_ne (by omega), up_ne (by omega), up_at]; omega
      · rw [up_ne e3, up_ne e1, up_ne e2, up_ne e3]
theorem c_scrapeOff {p : Nat} (S : hSt G R K n a s v) (W : okV nf Y) (C : CS I a (paintT Wc Y T p)) (O : okT B nf Y T) (hp : p < 9) (ho : 0 < T (3 * p + 2)) (hQ : ∀ I', CS I' a T → Fr (aSt a) R s I I' → Q none (I', J, R, K, n)) : zC G (d + 1) mX8_scrapeOff 0 0 [.ref a, .int (nI p), .int (nI (yardsA Wc Y T p))] (I, J, R, K, n) Q := by
  have h6 := W.1
  obtain ⟨o2, o3, -⟩ := (O.1 p hp).2 ho
  have hb := paintT_back (Wc := Wc) (Y := Y) (T := T) (p := p) (by omega) (by omega)
  have hy : yardsA Wc Y T p ≤ paintT Wc Y T p (27 + 3 * T (3 * p + 1)) := by
    unfold paintT; rw [up_ne (by omega), up_ne (by omega), up_at]; omega
  have h1 : 1 ≤ paintT Wc Y T p (29 + 3 * T (3 * p)) := by
    unfold paintT; rw [up_at]; omega
  have e0 : ∀ k, k < 27 → paintT Wc Y T p k = T k := fun k hk => by unfold paintT; rw [up_ne (by omega), up_ne (by omega), up_ne (by omega)]
  obtain ⟨c2, c3⟩ := (C.1 p hp).2 (by rw [e0 _ (by omega)]; exact ho)
  rw [e0 _ (by omega)] at c2 c3
  refine zC.of (by decide) (Nat.le_of_ble_eq_true rfl) ?_
  refine wX8_scrapeOff_0 a s v S _ _ ?_
  simp (disch := omega) only [c3, (C.2.1 _ (show T (3 * p + 1) < 6 by omega)).1, tk_sub, tk_0, tk_1, tk_2, tk_3, tk_4, tk_5, tk_6, tk_7, tk_8, tk_9, tk_10, tk_11, tk_12, tk_13, tk_14, tk_15, tk_16, tk_20, tk_24, tk_25, tk_26, tk_27, tk_28, tk_29, tk_30, tk_31, tk_32, tk_40, tk_41, tk_45, tk_46, tk_47, tk_48, tk_49, tk_50, tk_51, tk_57, tk_60, tk_99, tk_100, tk_120, tk_128, tk_231, tk_240, tk_255, tk_500, tk_999, tk_9999, tk_10000, pk_mul, nI_add, tk_c, tk_in, tk_lt, tk_le, tk_eq, tk_and31, tk_shl1, tk_shr1, tk_and1, tk_or, tk_ite, tk_tb, tk_mn, tk_mx]
  refine ⟨by omega, by omega, by omega, ?_⟩
  intro I2 e2
  have C2 := C.true_ (f := T (3 * p + 1)) (x := paintT Wc Y T p (27 + 3 * T (3 * p + 1)) - yardsA Wc Y T p) (by omega)
  have F2 : Fr (aSt a) R s I _ := (Fr.rf).put (b := a + 4) (k := T (3 * p + 1)) (x := nI (paintT Wc Y T p (27 + 3 * T (3 * p + 1)) - yardsA Wc Y T p)) ⟨by omega, by omega⟩
  rw [← e2] at C2 F2
  intro I3 e3
  have c7 : I2 a 8 = nI (paintT Wc Y T p 47) := by rw [C2.2.2.2.2.1, up_ne (by omega)]
  rw [c7, nI_add] at e3
  have C3 := C2.f47 (x := paintT Wc Y T p 47 + yardsA Wc Y T p)
  have F3 := F2.put (b := a) (k := 8) (x := nI (paintT Wc Y T p 47 + yardsA Wc Y T p)) ⟨by omega, by omega⟩
  rw [← e3] at C3 F3
  have c4 : I3 (a + 1) p = nI (T (3 * p)) := by
    have h := ((C3.1 p hp).2 (by rw [up_ne (by omega), up_ne (by omega), e0 _ (by omega)]; exact ho)).1
    rw [up_ne (by omega), up_ne (by omega), e0 _ (by omega)] at h
    exact h
  have c5 : I3 (a + 6) (T (3 * p)) = nI (paintT Wc Y T p (29 + 3 * T (3 * p))) := by
    have h := (C3.2.1 (T (3 * p)) (by omega)).2.2
    rw [up_ne (by omega), up_ne (by omega)] at h
    exact h
  simp (disch := omega) only [c4, c5, tk_sub, tk_0, tk_1, tk_2, tk_3, tk_4, tk_5, tk_6, tk_7, tk_8, tk_9, tk_10, tk_11, tk_12, tk_13, tk_14, tk_15, tk_16, tk_20, tk_24, tk_25, tk_26, tk_27, tk_28, tk_29, tk_30, tk_31, tk_32, tk_40, tk_41, tk_45, tk_46, tk_47, tk_48, tk_49, tk_50, tk_51, tk_57, tk_60, tk_99, tk_100, tk_120, tk_128, tk_231, tk_240, tk_255, tk_500, tk_999, tk_9999, tk_10000, pk_mul, nI_add, tk_c, tk_in, tk_lt, tk_le, tk_eq, tk_and31, tk_shl1, tk_shr1, tk_and1, tk_or, tk_ite, tk_tb, tk_mn, tk_mx]
  refine ⟨by omega, by omega, by omega, ?_⟩
  rintro I4 rfl
  have C4 := C3.forg (f := T (3 * p)) (x := paintT Wc Y T p (29 + 3 * T (3 * p)) - 1) (by omega)
  rw [hb] at C4
  exact hQ _ C4 (F3.put ⟨by omega, by omega⟩)
theorem c_isOpen_y (S : hSt G R K n a s v) (C : CS I a T) (O : okT B nf Y T) {p : Nat} (hp : p < 9) (ho : 0 < T (3 * p + 2)) (hQ : Q (some (.int 1)) (I, J, R, K, n)) : zC G (d + 1) mX8_isOpen 0 0 [.ref a, .int (nI p)] (I, J, R, K, n) Q := by
  refine c_isOpen S C _ ?_ (fun q hq => (O.1 q hq).1)
  simp (disch := omega) only [tk_0, tk_1, tk_2, tk_3, tk_4, tk_5, tk_6, tk_7, tk_8, tk_9, tk_10, tk_11, tk_12, tk_13, tk_14, tk_15, tk_16, tk_20, tk_24, tk_25, tk_26, tk_27, tk_28, tk_29, tk_30, tk_31, tk_32, tk_40, tk_41, tk_45, tk_46, tk_47, tk_48, tk_49, tk_50, tk_51, tk_57, tk_60, tk_99, tk_100, tk_120, tk_128, tk_231, tk_240, tk_255, tk_500, tk_999, tk_9999, tk_10000, pk_mul, nI_add, tk_c, tk_in, tk_lt, tk_le, tk_eq, tk_and31, tk_shl1, tk_shr1, tk_and1, tk_or, tk_ite, tk_tb, tk_mn, tk_mx]
  rw [if_pos ⟨by omega, hp, ho⟩]
  exact hQ
/-- no open wrong there -/
def shut (T : Nat → Nat) (p : Int32) : Prop := bad 9 p ∨ ∃ j : Nat, j < 9 ∧ p = nI j ∧ T (3 * j + 2) = 0
theorem shut_or (T : Nat → Nat) (p : Int32) : shut T p ∨ ∃ j : Nat, j < 9 ∧ p = nI j ∧ 0 < T (3 * j + 2) := by
  rcases bad_or (N := 9) (by decide) p with h | ⟨j, hj, e⟩
  · exact Or.inl (Or.inl h)
  · by_cases h : T (3 * j + 2) = 0
    · exact Or.inl (Or.inr ⟨j, hj, e, h⟩)
    · exact Or.inr ⟨j, hj, e, by omega⟩
theorem c_isOpen_n (S : hSt G R K n a s v) (C : CS I a T) (O : okT B nf Y T) {p : Int32} (hp : shut T p) (hQ : Q (some (.int 0)) (I, J, R, K, n)) : zC G (d + 1) mX8_isOpen 0 0 [.ref a, .int p] (I, J, R, K, n) Q := by
  refine c_isOpen S C _ ?_ (fun q hq => (O.1 q hq).1)
  rw [if_neg]
  · exact hQ
  · rintro ⟨h1, h2, h3⟩
    rcases hp with (h | h) | ⟨j, hj, rfl, h⟩
    · rw [Int32.le_iff_toInt_le] at h1; rw [Int32.lt_iff_toInt_lt] at h; omega
    · have h' : (9 : Int32) ≤ p := h
      rw [Int32.lt_iff_toInt_lt] at h2; rw [Int32.le_iff_toInt_le] at h'; omega
    · rw [tk_c (by omega)] at h3; omega
theorem c_pardon_n (S : hSt G R K n a s v) (C : CS I a T) (O : okT B nf Y T) {p : Int32} (hp : shut T p) (hQ : Q (some (.int (-1))) (I, J, R, K, n)) : zC G (d + 2) mX8_pardon 0 0 [.ref a, .int p] (I, J, R, K, n) Q := by
  refine zC.of (by decide) (Nat.le_of_ble_eq_true rfl) ?_
  refine wX8_pardon_0 a s v S _ ?_
  refine c_isOpen_n S C O hp ?_
  refine ⟨_, _, rfl, rfl, ?_⟩
  exact ⟨fun _ => hQ, fun h => absurd rfl h⟩
theorem c_pardon (S : hSt G R K n a s v) (g : Geo a s v) (V : VL I v nf Y) (W : okV nf Y) (C : CS I a T) (O : okT B nf Y T) (L : LW G R K n I s Wc) {p : Nat} (hp : p < 9) (ho : 0 < T (3 * p + 2)) (hQ : ∀ I', CS I' a (pardonT Wc Y T p) → Fr (aSt a) R s I I' → Q (some (.int (nI (yardsA Wc Y T p)))) (I', J, R, K, n)) : zC G (d + 5) mX8_pardon 0 0 [.ref a, .int (nI p)] (I, J, R, K, n) Q := by
  refine zC.of (by decide) (Nat.le_of_ble_eq_true rfl) ?_
  refine wX8_pardon_0 a s v S _ ?_
  refine c_isOpen_y S C O hp ho ?_
  refine ⟨_, _, rfl, rfl, ?_⟩
  refine ⟨fun h => absurd h (by decide), fun _ => ?_⟩
  refine c_paintOff S g V W C O L hp ho ?_
  intro I1 C1 F1
  refine ⟨_, _, rfl, rfl, ?_⟩
  have h6 := W.1
  obtain ⟨o2, o3, -⟩ := (O.1 p hp).2 ho
  have hf := O.2.2.2.2.1
  simp (disch := omega) only [tk_0, tk_1, tk_2, tk_3, tk_4, tk_5, tk_6, tk_7, tk_8, tk_9, tk_10, tk_11, tk_12, tk_13, tk_14, tk_15, tk_16, tk_20, tk_24, tk_25, tk_26, tk_27, tk_28, tk_29, tk_30, tk_31, tk_32, tk_40, tk_41, tk_45, tk_46, tk_47, tk_48, tk_49, tk_50, tk_51, tk_57, tk_60, tk_99, tk_100, tk_120, tk_128, tk_231, tk_240, tk_255, tk_500, tk_999, tk_9999, tk_10000, pk_mul, nI_add, tk_c, tk_in, tk_lt, tk_le, tk_eq, tk_and31, tk_shl1, tk_shr1, tk_and1, tk_or, tk_ite, tk_tb, tk_mn, tk_mx]
  refine ⟨by omega, ?_⟩
  intro I2 e2
  have C2 := C1.zero hp
  have F2 := F1.put (b := a + 3) (k := p) (x := nI 0) ⟨by omega, by omega⟩
  rw [← e2] at C2 F2
  have c6 : I2 a 6 = nI (T 45) := by
    rw [C2.2.2.1, zeroT_ne (by omega)]
    unfold paintT
    rw [up_ne (by omega), up_ne (by omega), up_ne (by omega)]
  simp (disch := omega) only [c6, tk_0, tk_1, tk_2, tk_3, tk_4, tk_5, tk_6, tk_7, tk_8, tk_9, tk_10, tk_11, tk_12, tk_13, tk_14, tk_15, tk_16, tk_20, tk_24, tk_25, tk_26, tk_27, tk_28, tk_29, tk_30, tk_31, tk_32, tk_40, tk_41, tk_45, tk_46, tk_47, tk_48, tk_49, tk_50, tk_51, tk_57, tk_60, tk_99, tk_100, tk_120, tk_128, tk_231, tk_240, tk_255, tk_500, tk_999, tk_9999, tk_10000, pk_mul, nI_add, tk_c, tk_in, tk_lt, tk_le, tk_eq, tk_and31, tk_shl1, tk_shr1, tk_and1, tk_or, tk_ite, tk_tb, tk_mn, tk_mx]
  rintro I3 rfl
  have C3 := C2.f45 (x := min (T 45 + 1) 999)
  rw [show up (zeroT (paintT Wc Y T p) p) 45 (min (T 45 + 1) 999) = pardonT Wc Y T p by unfold pardonT; rw [Nat.min_comm]] at C3
  exact hQ _ C3 (F2.put ⟨by omega, by omega⟩)
/-- a fence that can be painted falsely -/
def canPaint (nf : Nat) (Y T : Nat → Nat) (p q : Int32) : Prop := ∃ f k : Nat, p = nI f ∧ q = nI k ∧ f < nf ∧ 1 ≤ k ∧ k ≤ 9 ∧ k ≤ T 47 ∧ k ≤ bareA Y T f
def daubT (T : Nat → Nat) (f k : Nat) : Nat → Nat := up (up T (28 + 3 * f) (T (28 + 3 * f) + k)) 47 (T 47 - k)
theorem c_daub_n (S : hSt G R K n a s v) (V : VL I v nf Y) (W : okV nf Y) (C : CS I a T) (O : okT B nf Y T) {p q : Int32} (hp : ¬ canPaint nf Y T p q) (hQ : Q (some (.int (-1))) (I, J, R, K, n)) : zC G (d + 3) mX8_daub 0 0 [.ref a, .int p, .int q] (I, J, R, K, n) Q := by
  have h6 := W.1
  have c7 : I a 8 = nI (T 47) := C.2.2.2.2.1
  have o7 := O.2.2.2.2.2.2.1
  refine zC.of (by decide) (Nat.le_of_ble_eq_true rfl) ?_
  refine wX8_daub_0 a s v S _ _ ?_
  rcases bad_or (N := nf) (by omega) p with hb | ⟨f, hf, rfl⟩
  · refine c_vf_n (Set_2 (St_14 S)) V.1 hb ?_
    refine ⟨_, _, rfl, rfl, ?_⟩
    exact ⟨fun _ => hQ, fun h => absurd rfl h⟩
  · refine c_vf_y (Set_2 (St_14 S)) V.1 h6 hf ?_
    refine ⟨_, _, rfl, rfl, ?_⟩
    refine ⟨fun h => absurd h (by decide), fun _ => ⟨fun _ => hQ, fun h1 => ⟨fun _ => hQ, fun h2 => ⟨fun _ => hQ, fun h3 => ?_⟩⟩⟩⟩
    obtain ⟨k, hk, rfl⟩ : ∃ k : Nat, k ≤ 9 ∧ q = nI k := nI_of2 (M := 9) (by decide) (fun h => h1 (by rw [Int32.lt_iff_toInt_lt] at h ⊢; have e : (1 : Int32).toInt = 1 := rfl; have e0 : (0 : Int32).toInt = 0 := rfl; omega)) (by rw [Int32.lt_iff_toInt_lt] at h2; rw [Int32.le_iff_toInt_le]; omega)
    have b4 := bareA_le (T := T) W hf
    simp (disch := omega) only [c7, tk_0, tk_1, tk_2, tk_3, tk_4, tk_5, tk_6, tk_7, tk_8, tk_9, tk_10, tk_11, tk_12, tk_13, tk_14, tk_15, tk_16, tk_20, tk_24, tk_25, tk_26, tk_27, tk_28, tk_29, tk_30, tk_31, tk_32, tk_40, tk_41, tk_45, tk_46, tk_47, tk_48, tk_49, tk_50, tk_51, tk_57, tk_60, tk_99, tk_100, tk_120, tk_128, tk_231, tk_240, tk_255, tk_500, tk_999, tk_9999, tk_10000, pk_mul, nI_add, tk_c, tk_in, tk_lt, tk_le, tk_eq, tk_and31, tk_shl1, tk_shr1, tk_and1, tk_or, tk_ite, tk_tb, tk_mn, tk_mx] at h1 h2 h3
    refine c_bare S V W C O hf ?_
    refine ⟨_, _, rfl, rfl, ?_⟩
    simp (disch := omega) only [tk_0, tk_1, tk_2, tk_3, tk_4, tk_5, tk_6, tk_7, tk_8, tk_9, tk_10, tk_11, tk_12, tk_13, tk_14, tk_15, tk_16, tk_20, tk_24, tk_25, tk_26, tk_27, tk_28, tk_29, tk_30, tk_31, tk_32, tk_40, tk_41, tk_45, tk_46, tk_47, tk_48, tk_49, tk_50, tk_51, tk_57, tk_60, tk_99, tk_100, tk_120, tk_128, tk_231, tk_240, tk_255, tk_500, tk_999, tk_9999, tk_10000, pk_mul, nI_add, tk_c, tk_in, tk_lt, tk_le, tk_eq, tk_and31, tk_shl1, tk_shr1, tk_and1, tk_or, tk_ite, tk_tb, tk_mn, tk_mx]
    exact ⟨fun h => absurd ⟨f, k, rfl, rfl, hf, by omega, hk, by omega, h⟩ hp, fun _ => hQ⟩
theorem c_daub (S : hSt G R K n a s v) (V : VL I v nf Y) (W : okV nf Y) (C : CS I a T) (O : okT B nf Y T) {f k : Nat} (hf : f < nf) (h1 : 1 ≤ k) (h9 : k ≤ 9) (hl : k ≤ T 47) (hb : k ≤ bareA Y T f) (hQ : ∀ I', CS I' a (daubT T f k) → Fr (aSt a) R s I I' → Q (some (.int (nI (T (28 + 3 * f) + k)))) (I', J, R, K, n)) : zC G (d + 3) mX8_daub 0 0 [.ref a, .int (nI f), .int (nI k)] (I, J, R, K, n) Q := by
  have h6 := W.1
  have c7 : I a 8 = nI (T 47) := C.2.2.2.2.1
  have o7 := O.2.2.2.2.2.2.1
  have b4 := bareA_le (T := T) W hf
  refine zC.of (by decide) (Nat.le_of_ble_eq_true rfl) ?_
  refine wX8_daub_0 a s v S _ _ ?_
  refine c_vf_y (Set_2 (St_14 S)) V.1 h6 hf ?_
  refine ⟨_, _, rfl, rfl, ?_⟩
  simp (disch := omega) only [c7, tk_0, tk_1, tk_2, tk_3, tk_4, tk_5, tk_6, tk_7, tk_8, tk_9, tk_10, tk_11, tk_12, tk_13, tk_14, tk_15, tk_16, tk_20, tk_24, tk_25, tk_26, tk_27, tk_28, tk_29, tk_30, tk_31, tk_32, tk_40, tk_41, tk_45, tk_46, tk_47, tk_48, tk_49, tk_50, tk_51, tk_57, tk_60, tk_99, tk_100, tk_120, tk_128, tk_231, tk_240, tk_255, tk_500, tk_999, tk_9999, tk_10000, pk_mul, nI_add, tk_c, tk_in, tk_lt, tk_le, tk_eq, tk_and31, tk_shl1, tk_shr1, tk_and1, tk_or, tk_ite, tk_tb, tk_mn, tk_mx]
  refine ⟨fun h => absurd h (by decide), fun _ => ⟨fun h => absurd h (by omega), fun _ => ⟨fun h => absurd h (by omega), fun _ => ⟨fun h => absurd h (by omega), fun _ => ?_⟩⟩⟩⟩
  refine c_bare S V W C O hf ?_
  refine ⟨_, _, rfl, rfl, ?_⟩
  simp (disch := omega) only [(C.2.1 f (by omega)).2.1, tk_0, tk_1, tk_2, tk_3, tk_4, tk_5, tk_6, tk_7, tk_8, tk_9, tk_10, tk_11, tk_12, tk_13, tk_14, tk_15, tk_16, tk_20, tk_24, tk_25, tk_26, tk_27, tk_28, tk_29, tk_30, tk_31, tk_32, tk_40, tk_41, tk_45, tk_46, tk_47, tk_48, tk_49, tk_50, tk_51, tk_57, tk_60, tk_99, tk_100, tk_120, tk_128, tk_231, tk_240, tk_255, tk_500, tk_999, tk_9999, tk_10000, pk_mul, nI_add, tk_c, tk_in, tk_lt, tk_le, tk_eq, tk_and31, tk_shl1, tk_shr1, tk_and1, tk_or, tk_ite, tk_tb, tk_mn, tk_mx]
  refine ⟨fun _ => ?_, fun h => absurd hb h⟩
  refine ⟨by omega, by omega, ?_⟩
  intro I2 e2
  have C2 := C.false_ (f := f) (x := T (28 + 3 * f) + k) (by omega)
  have F2 : Fr (aSt a) R s I _ := (Fr.rf).put (b := a + 5) (k := f) (x := nI (T (28 + 3 * f) + k)) ⟨by omega, by omega⟩
  rw [← e2] at C2 F2
  have c8 : I2 a 8 = nI (T 47) := by rw [C2.2.2.2.2.1, up_ne (by omega)]
  simp (disch := omega) only [c8, tk_sub, tk_0, tk_1, tk_2, tk_3, tk_4, tk_5, tk_6, tk_7, tk_8, tk_9, tk_10, tk_11, tk_12, tk_13, tk_14, tk_15, tk_16, tk_20, tk_24, tk_25, tk_26, tk_27, tk_28, tk_29, tk_30, tk_31, tk_32, tk_40, tk_41, tk_45, tk_46, tk_47, tk_48, tk_49, tk_50, tk_51, tk_57, tk_60, tk_99, tk_100, tk_120, tk_128, tk_231, tk_240, tk_255, tk_500, tk_999, tk_9999, tk_10000, pk_mul, nI_add, tk_c, tk_in, tk_lt, tk_le, tk_eq, tk_and31, tk_shl1, tk_shr1, tk_and1, tk_or, tk_ite, tk_tb, tk_mn, tk_mx]
  intro I3 e3
  have C3 := C2.f47 (x := T 47 - k)
  have F3 := F2.put (b := a) (k := 8) (x := nI (T 47 - k)) ⟨by omega, by omega⟩
  rw [← e3] at C3 F3
  refine ⟨by omega, qI ?_ (hQ I3 C3 F3)⟩
  have h := (C3.2.1 f (by omega)).2.1
  rw [up_ne (by omega), up_at] at h
  exact h.symm
/-- a fence with false white -/
def canInspect (nf : Nat) (T : Nat → Nat) (p : Int32) : Prop := ∃ f : Nat, p = nI f ∧ f < nf ∧ 0 < T (28 + 3 * f)
def thumbT (T : Nat → Nat) (f : Nat) : Nat → Nat := up (up T (28 + 3 * f) 0) 48 (T 48 - T (28 + 3 * f))
theorem c_thumb_n (S : hSt G R K n a s v) (V : VL I v nf Y) (W : okV nf Y) (C : CS I a T) (O : okT B nf Y T) {p : Int32} (hp : ¬ canInspect nf T p) (hQ : Q (some (.int (-1))) (I, J, R, K, n)) : zC G (d + 2) mX8_thumb 0 0 [.ref a, .int p] (I, J, R, K, n) Q := by
  have h6 := W.1
  refine zC.of (by decide) (Nat.le_of_ble_eq_true rfl) ?_
  refine wX8_thumb_0 a s v S _ ?_
  rcases bad_or (N := nf) (by omega) p with hb | ⟨f, hf, rfl⟩
  · refine c_vf_n (Set_2 (St_14 S)) V.1 hb ?_
    refine ⟨_, _, rfl, rfl, ?_⟩
    exact ⟨fun _ => hQ, fun h => absurd rfl h⟩
  · refine c_vf_y (Set_2 (St_14 S)) V.1 h6 hf ?_
    refine ⟨_, _, rfl, rfl, ?_⟩
    have h4 := O.t W (f := f) (by omega)
    simp (disch := omega) only [(C.2.1 f (by omega)).2.1, tk_0, tk_1, tk_2, tk_3, tk_4, tk_5, tk_6, tk_7, tk_8, tk_9, tk_10, tk_11, tk_12, tk_13, tk_14, tk_15, tk_16, tk_20, tk_24, tk_25, tk_26, tk_27, tk_28, tk_29, tk_30, tk_31, tk_32, tk_40, tk_41, tk_45, tk_46, tk_47, tk_48, tk_49, tk_50, tk_51, tk_57, tk_60, tk_99, tk_100, tk_120, tk_128, tk_231, tk_240, tk_255, tk_500, tk_999, tk_9999, tk_10000, pk_mul, nI_add, tk_c, tk_in, tk_lt, tk_le, tk_eq, tk_and31, tk_shl1, tk_shr1, tk_and1, tk_or, tk_ite, tk_tb, tk_mn, tk_mx]
    exact ⟨fun h => absurd h (by decide), fun _ => ⟨by omega, fun _ => hQ, fun h => absurd ⟨f, rfl, hf, by omega⟩ hp⟩⟩
theorem c_thumb (S : hSt G R K n a s v) (V : VL I v nf Y) (W : okV nf Y) (C : CS I a T) (O : okT B nf Y T) {f : Nat} (hf : f < nf) (h1 : 0 < T (28 + 3 * f)) (hQ : ∀ I', CS I' a (thumbT T f) → Fr (aSt a) R s I I' → Q (some (.int (nI (T (28 + 3 * f))))) (I', J, R, K, n)) : zC G (d + 2) mX8_thumb 0 0 [.ref a, .int (nI f)] (I, J, R, K, n) Q := by
  have h6 := W.1
  have o8 := O.2.2.2.2.2.2.2.1
  have h4 := O.t W (f := f) (by omega)
  refine zC.of (by decide) (Nat.le_of_ble_eq_true rfl) ?_
  refine wX8_thumb_0 a s v S _ ?_
  refine c_vf_y (Set_2 (St_14 S)) V.1 h6 hf ?_
  refine ⟨_, _, rfl, rfl, ?_⟩
  simp (disch := omega) only [(C.2.1 f (by omega)).2.1, tk_0, tk_1, tk_2, tk_3, tk_4, tk_5, tk_6, tk_7, tk_8, tk_9, tk_10, tk_11, tk_12, tk_13, tk_14, tk_15, tk_16, tk_20, tk_24, tk_25, tk_26, tk_27, tk_28, tk_29, tk_30, tk_31, tk_32, tk_40, tk_41, tk_45, tk_46, tk_47, tk_48, tk_49, tk_50, tk_51, tk_57, tk_60, tk_99, tk_100, tk_120, tk_128, tk_231, tk_240, tk_255, tk_500, tk_999, tk_9999, tk_10000, pk_mul, nI_add, tk_c, tk_in, tk_lt, tk_le, tk_eq, tk_and31, tk_shl1, tk_shr1, tk_and1, tk_or, tk_ite, tk_tb, tk_mn, tk_mx]
  refine ⟨fun h => absurd h (by decide), fun _ => ⟨by omega, fun h => absurd h (by omega), fun _ => ⟨by omega, by omega, ?_⟩⟩⟩
  intro I2 e2
  have C2 := C.false_ (f := f) (x := 0) (by omega)
  have F2 : Fr (aSt a) R s I _ := (Fr.rf).put (b := a + 5) (k := f) (x := nI 0) ⟨by omega, by omega⟩
  rw [← e2] at C2 F2
  have c8 : I2 a 9 = nI (T 48) := by rw [C2.2.2.2.2.2.1, up_ne (by omega)]
  rw [c8]
  intro I3 e3
  rw [tk_monus (by omega) (by omega)] at e3
  have C3 := C2.f48 (x := T 48 - T (28 + 3 * f))
  have F3 := F2.put (b := a) (k := 9) (x := nI (T 48 - T (28 + 3 * f))) ⟨by omega, by omega⟩
  rw [← e3] at C3 F3
  exact hQ I3 C3 F3
end
