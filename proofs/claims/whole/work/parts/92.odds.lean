/-! SETS: painting off in rising order -/
section
variable {Y T : Nat → Nat} {Wc : Nat → Nat → Nat → Nat → Nat → Nat → Nat} {B nf p s f : Nat}
theorem pntF_bits {s' : Nat} : ∀ i, (∀ p, p < i → s.testBit p = s'.testBit p) → pntF Wc Y s T i = pntF Wc Y s' T i
  | 0, _ => rfl
  | i + 1, h => by rw [pntF, pntF, pntF_bits i (fun p hp => h p (by omega)), h i (by omega)]
theorem pntF_cut {i : Nat} (hs : s < 2 ^ i) : ∀ j, pntF Wc Y s T (i + j) = pntF Wc Y s T i
  | 0 => rfl
  | j + 1 => by
    rw [show i + (j + 1) = i + j + 1 from rfl, pntF, if_neg (by rw [Nat.testBit_lt_two_pow (Nat.lt_of_lt_of_le hs (Nat.pow_le_pow_right (by decide) (by omega)))]; decide)]
    exact pntF_cut hs j
theorem or_lt {i : Nat} (hs : s < 2 ^ i) : s ||| 2 ^ i < 2 ^ (i + 1) := by
  rw [tk_orp hs, Nat.pow_succ]
  omega
theorem or_bit (k i : Nat) : (s ||| 2 ^ i).testBit k = (s.testBit k || decide (i = k)) := by rw [Nat.testBit_or, Nat.testBit_two_pow]
theorem pntF_add (hs : s < 2 ^ p) (hp : p < 9) : pntF Wc Y (s ||| 2 ^ p) T 9 = (paintT Wc Y (pntF Wc Y s T 9).1 p, (pntF Wc Y s T 9).2 + yardsA Wc Y (pntF Wc Y s T 9).1 p) := by
  have e1 : pntF Wc Y (s ||| 2 ^ p) T 9 = pntF Wc Y (s ||| 2 ^ p) T (p + 1) := by
    have := pntF_cut (Wc := Wc) (Y := Y) (T := T) (or_lt hs) (8 - p)
    rw [show p + 1 + (8 - p) = 9 by omega] at this
    exact this
  have e2 : pntF Wc Y s T 9 = pntF Wc Y s T p := by
    have := pntF_cut (Wc := Wc) (Y := Y) (T := T) hs (9 - p)
    rw [show p + (9 - p) = 9 by omega] at this
    exact this
  have e3 : pntF Wc Y (s ||| 2 ^ p) T p = pntF Wc Y s T p := pntF_bits p (fun k hk => by rw [or_bit, decide_eq_false (by omega), Bool.or_false])
  rw [e1, e2, pntF, if_pos (by rw [or_bit, decide_eq_true rfl, Bool.or_true]), e3]
theorem pntF_ok (O : okT B nf Y T) (W : okV nf Y) (hB : B + 9 < 100000) (ho : ∀ p, p < 9 → s.testBit p = true → 0 < T (3 * p + 2)) : ∀ i, i ≤ 9 → okT (B + i) nf Y (pntF Wc Y s T i).1
  | 0, _ => O
  | i + 1, hi => by
    have ih := pntF_ok O W hB ho i (by omega)
    rw [pntF]
    split
    · rename_i h
      exact ih.paint W (by omega) (by omega) (by rw [pntF_low (by omega)]; exact ho i (by omega) h)
    · exact ih.wide (by omega) (by omega)
theorem paint_bare (hf : f < 6) : bareA Y (paintT Wc Y T p) f ≤ bareA Y T f := by
  have h : ∀ k, k < 47 → T k ≤ paintT Wc Y T p k := by
    intro k h2
    unfold paintT
    by_cases e : k = 29 + 3 * T (3 * p)
    · rw [e, up_at]; exact Nat.le_succ _
    rw [up_ne e, up_ne (by omega)]
    by_cases e : k = 27 + 3 * T (3 * p + 1)
    · rw [e, up_at]; exact Nat.le_add_right _ _
    rw [up_ne e]
    exact Nat.le_refl _
  have h1 := h (27 + 3 * f) (by omega)
  have h2 := h (28 + 3 * f) (by omega)
  unfold bareA
  omega
/-- of so many parts those by which f is white -/
def oddF (Wc : Nat → Nat → Nat → Nat → Nat → Nat → Nat) (Y T : Nat → Nat) (f c : Nat) : Nat → Nat → Nat → Nat → Nat
  | 0, _, s, P => if bareA Y (pntF Wc Y s T 9).1 f = 0 then P else 0
  | j + 1, i, s, P => if 0 < T (3 * i + 2) ∧ T (3 * i + 1) = f then oddF Wc Y T f c j (i + 1) (s ||| 2 ^ i) (P * c / 100) + oddF Wc Y T f c j (i + 1) s (P - P * c / 100) else oddF Wc Y T f c j (i + 1) s P
theorem odd_part {P c : Nat} (hc : c < 101) : P * c / 100 ≤ P := by
  have : P * c ≤ P * 100 := Nat.mul_le_mul_left P (by omega)
  omega
theorem oddF_le {c : Nat} (hc : c < 101) : ∀ j i s P, oddF Wc Y T f c j i s P ≤ P
  | 0, i, s, P => by
    rw [oddF]
    split
    · exact Nat.le_refl _
    · exact Nat.zero_le _
  | j + 1, i, s, P => by
    have h := odd_part (P := P) hc
    have h1 := oddF_le hc j (i + 1) (s ||| 2 ^ i) (P * c / 100)
    have h2 := oddF_le hc j (i + 1) s (P - P * c / 100)
    have h3 := oddF_le hc j (i + 1) s P
    rw [oddF]
    split
    · omega
    · exact h3
theorem oddF_white {c : Nat} (hc : c < 101) (hf : f < 6) : ∀ j i s P, i + j = 9 → s < 2 ^ i → bareA Y (pntF Wc Y s T 9).1 f = 0 → oddF Wc Y T f c j i s P = P
  | 0, i, s, P, _, _, hb => by rw [oddF, if_pos hb]
  | j + 1, i, s, P, hi, hs, hb => by
    have h := odd_part (P := P) hc
    have hs2 : s < 2 ^ (i + 1) := Nat.lt_of_lt_of_le hs (Nat.pow_le_pow_right (by decide) (by omega))
    have hb2 : bareA Y (pntF Wc Y (s ||| 2 ^ i) T 9).1 f = 0 := by
      have := paint_bare (Wc := Wc) (Y := Y) (T := (pntF Wc Y s T 9).1) (p := i) hf
      rw [pntF_add hs (by omega)]
      show bareA Y (paintT Wc Y _ i) f = 0
      omega
    have h1 := oddF_white hc hf j (i + 1) (s ||| 2 ^ i) (P * c / 100) (by omega) (or_lt hs) hb2
    have h2 := oddF_white hc hf j (i + 1) s (P - P * c / 100) (by omega) hs2 hb
    have h3 := oddF_white hc hf j (i + 1) s P (by omega) hs2 hb
    rw [oddF]
    split
    · omega
    · exact h3
theorem nI_part {P c : Nat} (hP : P ≤ 1000000000) (hc : c < 101) : (((nI P).toInt64 * (nI c).toInt64) / 100 : Int64).toInt32 = nI (P * c / 100) := by
  have : P * c ≤ 1000000000 * 100 := Nat.mul_le_mul hP (by omega)
  rw [nI_l (by omega), nI_l (by omega), lN_mul, show (100 : Int64) = lN 100 from rfl, pk_lDiv (by omega) (by omega) (by omega), lN_i]
end
section
variable {G : zG} {d : Nat} {I : Nat → Nat → Int32} {J : Nat → Nat → Int64} {R : Nat → Nat → Option Nat} {K : Nat → Nat × Nat} {n : Nat} {x m v w q nx lo M t c : Nat} {lk sq : Nat → Nat} {tl : Nat → Nat} {tt : Nat → Nat → Nat} {vl : Vt} {st : Stt} {tp : Tpt} {lw : Lwt} {sp : Spt} {ap : Nat} {sg : Sgt} {B B1 : Nat} {p p1 p2 : Int32} {T : Nat → Nat} {I1 : Nat → Nat → Int32} {Q : Option Value → zH → Prop}
theorem c_partsC (C : CIv G I R K n x m v w q nx lo M lk sq vl st tp lw sp ap sg B) {f c j i s P : Nat} {I3 : Nat → Nat → Int32} (hf : f < vl.1) (hc : c < 101) (hB : B + 20 < 100000) (hi : i + j = 9) (hs : s < 2 ^ i) (ho : ∀ p, p < 9 → s.testBit p = true → 0 < st.1 (3 * p + 2)) (h3 : ∀ b k, ¬ scr x w q nx lk lw.1 b k → I3 b k = I b k) (cs3 : CS I3 (x + 20) (pntF (aW lw) vl.2.1 s st.1 9).1) (hQ : ∀ I', (∀ b k, ¬ scr x w q nx lk lw.1 b k → I' b k = I b k) → CS I' (x + 20) (pntF (aW lw) vl.2.1 s st.1 9).1 → Q (some (.int (nI (oddF (aW lw) vl.2.1 st.1 f c j i s P)))) (I', J, R, K, n)) (L : bareA vl.2.1 (pntF (aW lw) vl.2.1 s st.1 9).1 f ≠ 0 → zV G (d + j + 5) mX4_whiteParts 0 0 26 [(0, .ref (x + 80)), (1, .int (nI f)), (2, .int (nI i)), (3, .int (nI P)), (4, .int (nI c)), (5, .int (nI (toA (pntF (aW lw) vl.2.1 s st.1 9).1 f))), (6, .int (nI i))] [] (I3, J, R, K, n) Q) : zC G (d + j + 5) mX4_whiteParts 0 0 [.ref (x + 80), .int (nI f), .int (nI i), .int (nI P), .int (nI c)] (I3, J, R, K, n) Q := by
  have h6 := C.okv.1.1
  have C3 := C.same h3
  have ok3 : okT (B + 9) vl.1 vl.2.1 (pntF (aW lw) vl.2.1 s st.1 9).1 := pntF_ok C.oks.1 C.okv.1 (by omega) ho 9 (by omega)
  have bl := bareA_le (T := (pntF (aW lw) vl.2.1 s st.1 9).1) C.okv.1 hf
  refine zC.of (by decide) (Nat.le_of_ble_eq_true rfl) ?_
  refine wX4_whiteParts_0 (x + 80) (x + 20) (x + 3) v (X_11 C.X) _ _ _ _ ?_
  refine c_bare (X_7 C.X) C3.cv.1 C.okv.1 cs3 ok3 hf ?_
  refine ⟨_, _, rfl, rfl, ?_⟩
  rw [show (0 : Int32) = nI 0 from rfl, tk_eq (by omega) (by omega)]
  refine ⟨fun h => ?_, fun h => ?_⟩
  · have := hQ I3 h3 cs3
    rw [oddF_white hc (by omega) j i s P hi hs h] at this
    exact this
  · refine c_doneTo (X_7 C.X) C.okv.1 cs3 ok3 (f := f) (by omega) ?_
    refine ⟨_, _, rfl, rfl, ?_⟩
    exact L h
theorem c_partsL (C : CIv G I R K n x m v w q nx lo M lk sq vl st tp lw sp ap sg B) {f c : Nat} (hf : f < vl.1) (hc : c < 101) (hB : B + 20 < 100000) : ∀ (j D i s P l2 : Nat) (I2 : Nat → Nat → Int32) (Q : Option Value → zH → Prop), i + j = 9 → s < 2 ^ i → P ≤ 1000000000 → (∀ p, p < 9 → s.testBit p = true → 0 < st.1 (3 * p + 2)) → (∀ b k, ¬ scr x w q nx lk lw.1 b k → I2 b k = I b k) → CS I2 (x + 20) (pntF (aW lw) vl.2.1 s st.1 9).1 → bareA vl.2.1 (pntF (aW lw) vl.2.1 s st.1 9).1 f ≠ 0 → (∀ I', (∀ b k, ¬ scr x w q nx lk lw.1 b k → I' b k = I b k) → CS I' (x + 20) (pntF (aW lw) vl.2.1 s st.1 9).1 → Q (some (.int (nI (oddF (aW lw) vl.2.1 st.1 f c j i s P)))) (I', J, R, K, n)) → zV G (D + j + 5) mX4_whiteParts 0 0 26 [(0, .ref (x + 80)), (1, .int (nI f)), (2, .int (nI l2)), (3, .int (nI P)), (4, .int (nI c)), (5, .int (nI (toA (pntF (aW lw) vl.2.1 s st.1 9).1 f))), (6, .int (nI i))] [] (I2, J, R, K, n) Q := by
  have h6 := C.okv.1.1
  intro j
  induction j with
  | zero =>
    intro D i s P l2 I2 Q hi hs hP ho h2 cs hb hQ
    obtain rfl : i = 9 := by omega
    refine wX4_whiteParts_26 (x + 80) (x + 20) (x + 3) v (X_11 C.X) _ _ _ _ _ _ ⟨fun _ => ⟨fun _ => ?_, fun h => absurd (by decide) h⟩, fun h => absurd (by decide) h⟩
    have := hQ I2 h2 cs
    rw [oddF, if_neg hb] at this
    exact this
  | succ j ih =>
    intro D i s P l2 I2 Q hi hs hP ho h2 cs hb hQ
    have C2 := C.same h2
    have hs2 : s < 2 ^ (i + 1) := Nat.lt_of_lt_of_le hs (Nat.pow_le_pow_right (by decide) (by omega))
    have ok : okT (B + 9) vl.1 vl.2.1 (pntF (aW lw) vl.2.1 s st.1 9).1 := pntF_ok C.oks.1 C.okv.1 (by omega) ho 9 (by omega)
    have n9 : ¬ (9 : Int32) ≤ nI i := fun h => by
      rw [show (9 : Int32) = nI 9 from rfl, tk_le (by omega) (by omega)] at h
      omega
    have hbit : (toA (pntF (aW lw) vl.2.1 s st.1 9).1 f).testBit i = true ↔ (0 < st.1 (3 * i + 2) ∧ st.1 (3 * i + 1) = f) := by
      unfold toA
      rw [bitsA_bit, decide_eq_true (show i < 9 by omega), openA, pntF_low (by omega), pntF_low (by omega)]
      simp
    have b1 : toA (pntF (aW lw) vl.2.1 s st.1 9).1 f < 512 := bits_9 _ (by omega)
    have call : ∀ (s' P' : Nat) (I3 : Nat → Nat → Int32) (Q : Option Value → zH → Prop), s' < 2 ^ (i + 1) → P' ≤ 1000000000 → (∀ p, p < 9 → s'.testBit p = true → 0 < st.1 (3 * p + 2)) → (∀ b k, ¬ scr x w q nx lk lw.1 b k → I3 b k = I b k) → CS I3 (x + 20) (pntF (aW lw) vl.2.1 s' st.1 9).1 → (∀ I', (∀ b k, ¬ scr x w q nx lk lw.1 b k → I' b k = I b k) → CS I' (x + 20) (pntF (aW lw) vl.2.1 s' st.1 9).1 → Q (some (.int (nI (oddF (aW lw) vl.2.1 st.1 f c j (i + 1) s' P')))) (I', J, R, K, n)) → zC G (D + j + 5) mX4_whiteParts 0 0 [.ref (x + 80), .int (nI f), .int (nI (i + 1)), .int (nI P'), .int (nI c)] (I3, J, R, K, n) Q := fun s' P' I3 Q hs' hP' ho' h3 cs3 hQ => c_partsC (d := D) C hf hc hB (by omega) hs' ho' h3 cs3 hQ (fun hb => ih D (i + 1) s' P' (i + 1) I3 Q (by omega) hs' hP' ho' h3 cs3 hb hQ)
    refine wX4_whiteParts_26 (x + 80) (x + 20) (x + 3) v (X_11 C.X) _ _ _ _ _ _ ⟨fun h => absurd h n9, fun _ => ⟨fun h => ?_, fun h => ⟨fun h => absurd h n9, fun _ => ?_⟩⟩⟩
    · have hn : ¬ (0 < st.1 (3 * i + 2) ∧ st.1 (3 * i + 1) = f) := by
        rw [← hbit, ← tk_bit (by omega) (by omega), h]
        decide
      rw [nI_1]
      rw [show D + (j + 1) + 4 + 1 = D + 1 + j + 5 by omega]
      refine ih (D + 1) (i + 1) s P l2 I2 Q (by omega) hs2 hP ho h2 cs hb ?_
      rw [oddF, if_neg hn] at hQ
      exact hQ
    · have hy : 0 < st.1 (3 * i + 2) ∧ st.1 (3 * i + 1) = f := by
        rw [← hbit, Nat.testBit_eq_decide_div_mod_eq, decide_eq_true_iff]
        have e : (nI (toA (pntF (aW lw) vl.2.1 s st.1 9).1 f) >>> (nI i &&& 31)) &&& 1 = nI ((toA (pntF (aW lw) vl.2.1 s st.1 9).1 f) / 2 ^ i % 2) := by
          rw [tk_shr (by omega) (by omega), show (1 : Int32) = nI 1 from rfl, tk_and1]
        rw [e, show (0 : Int32) = nI 0 from rfl, tk_eq (by omega) (by omega)] at h
        omega
      rw [oddF, if_pos hy] at hQ
      refine ⟨fun h0 => ?_, fun h0 => ?_⟩
      · rw [show (0 : Int32) = nI 0 from rfl, tk_eq (by omega) (by omega)] at h0
        have := hQ I2 h2 cs
        have z1 := oddF_le (Wc := aW lw) (Y := vl.2.1) (T := st.1) (f := f) hc j (i + 1) (s ||| 2 ^ i) (P * c / 100)
        have z2 := oddF_le (Wc := aW lw) (Y := vl.2.1) (T := st.1) (f := f) hc j (i + 1) s (P - P * c / 100)
        have z3 := odd_part (P := P) hc
        rw [show oddF (aW lw) vl.2.1 st.1 f c j (i + 1) (s ||| 2 ^ i) (P * c / 100) + oddF (aW lw) vl.2.1 st.1 f c j (i + 1) s (P - P * c / 100) = 0 by omega] at this
        exact this
      · have z3 := odd_part (P := P) hc
        have lo : 0 < (pntF (aW lw) vl.2.1 s st.1 9).1 (3 * i + 2) := by rw [pntF_low (by omega)]; exact hy.1
        have ea := pntF_add (Wc := aW lw) (Y := vl.2.1) (T := st.1) hs (show i < 9 by omega)
        refine c_paintOff (X_7 C.X) C2.g2 C2.cv.1 C.okv.1 cs ok C2.lwh (p := i) (by omega) lo ?_
        intro I3 cs3 F3
        refine ⟨_, _, rfl, rfl, ?_⟩
        have h3 : ∀ b k, ¬ scr x w q nx lk lw.1 b k → I3 b k = I b k := fun b y hb => by rw [C2.fr F3 (fun h => hb (by unfold aSt at h; unfold scr; omega)) hb]; exact h2 b y hb
        rw [nI_part hP hc, nI_1]
        refine call (s ||| 2 ^ i) (P * c / 100) I3 _ (or_lt hs) (by omega) (fun p hp h => ?_) h3 (by rw [ea]; exact cs3) ?_
        · rw [or_bit, Bool.or_eq_true, decide_eq_true_iff] at h
          rcases h with h | rfl
          · exact ho p hp h
          · exact hy.1
        intro I4 h4 cs4
        refine ⟨_, _, rfl, rfl, ?_⟩
        rw [ea] at cs4
        have C4 := C.same h4
        refine c_scrapeOff (X_7 C.X) C.okv.1 cs4 ok (p := i) (by omega) lo ?_
        intro I5 cs5 F5
        refine ⟨_, rfl, rfl, ?_⟩
        have h5 : ∀ b k, ¬ scr x w q nx lk lw.1 b k → I5 b k = I b k := fun b y hb => by rw [C4.fr F5 (fun h => hb (by unfold aSt at h; unfold scr; omega)) hb]; exact h4 b y hb
        rw [tk_sub z3]
        refine call s (P - P * c / 100) I5 _ hs2 (by omega) ho h5 cs5 ?_
        intro I6 h6' cs6
        refine ⟨_, _, rfl, rfl, ?_⟩
        rw [nI_add]
        exact hQ I6 h6' cs6
theorem x_odds_y (C : CIv G I R K n x m v w q nx lo M lk sq vl st tp lw sp ap sg B) {f c : Nat} (hf : f < vl.1) (hc : c < 101) (hB : B + 20 < 100000) : XC G (d + 16) mX11_odds [.ref x, .int (nI f), .int (nI c)] I J R K n x m (nI (oddF (aW lw) vl.2.1 st.1 f c 9 0 0 1000000000)) vl st tp lw sp ap sg B := by
  intro Q hQ
  have h6 := C.okv.1.1
  refine zC.of (by decide) (Nat.le_of_ble_eq_true rfl) ?_
  refine wX11_odds_0 x v w q C.X _ _ ?_
  refine c_xf_y C hf ?_
  refine ⟨_, _, rfl, rfl, ?_⟩
  refine ⟨fun h => absurd h (by decide), fun _ => ⟨fun h => absurd h (nI_pos (by omega)), fun _ => ⟨fun _ => ?_, fun h => absurd ((tk_le (b := 100) (by omega) (by omega)).mpr (by omega)) h⟩⟩⟩
  refine c_copyFrom (X_7 C.X) (X_5 C.X) C.cs (by omega) ?_
  intro I2 cs2 f2
  refine ⟨_, rfl, rfl, ?_⟩
  have h2 : ∀ b k, ¬ scr x w q nx lk lw.1 b k → I2 b k = I b k := fun b k hb => by rw [f2 b (fun h => hb (by unfold scr; omega))]
  have ho : ∀ p, p < 9 → (0 : Nat).testBit p = true → 0 < st.1 (3 * p + 2) := fun p _ h => by rw [Nat.zero_testBit] at h; exact absurd h (by decide)
  have e0 : (pntF (aW lw) vl.2.1 0 st.1 9).1 = st.1 := by
    have := pntF_cut (Wc := aW lw) (Y := vl.2.1) (T := st.1) (s := 0) (i := 0) (by decide) 9
    rw [show 0 + 9 = 9 from rfl] at this
    rw [this]
    rfl
  have fin : ∀ (Q : Option Value → zH → Prop), (∀ I', (∀ b k, ¬ scr x w q nx lk lw.1 b k → I' b k = I b k) → CS I' (x + 20) (pntF (aW lw) vl.2.1 0 st.1 9).1 → Q (some (.int (nI (oddF (aW lw) vl.2.1 st.1 f c 9 0 0 1000000000)))) (I', J, R, K, n)) → zC G (d + 9 + 5) mX4_whiteParts 0 0 [.ref (x + 80), .int (nI f), .int (nI 0), .int (nI 1000000000), .int (nI c)] (I2, J, R, K, n) Q := fun Q hQ => c_partsC C hf hc hB (by omega) (by decide) ho h2 (by rw [e0]; exact cs2) hQ (fun hb => c_partsL C hf hc hB 9 d 0 0 1000000000 0 I2 Q (by omega) (by decide) (by omega) ho h2 (by rw [e0]; exact cs2) hb hQ)
  refine zC.of (by decide) (Nat.le_of_ble_eq_true rfl) ?_
  refine wX4_whiteOdds_0 (x + 80) (x + 20) (x + 3) v (X_11 C.X) _ _ ?_
  refine fin _ ?_
  intro I' h' _
  exact ⟨_, _, rfl, rfl, _, _, rfl, rfl, hQ I' v w q nx lo M lk sq (C.same h') (C.mid h')⟩
theorem x_odds_n (C : CIv G I R K n x m v w q nx lo M lk sq vl st tp lw sp ap sg B) (hn : ¬ ∃ f c : Nat, f < vl.1 ∧ c < 101 ∧ p1 = nI f ∧ p2 = nI c) : XC G (d + 3) mX11_odds [.ref x, .int p1, .int p2] I J R K n x m (-1) vl st tp lw sp ap sg B := by
  intro Q hQ
  replace hQ := hQ I v w q nx lo M lk sq C (fun _ _ _ => rfl)
  have h6 := C.okv.1.1
  refine zC.of (by decide) (Nat.le_of_ble_eq_true rfl) ?_
  refine wX11_odds_0 x v w q C.X _ _ ?_
  rcases bad_or (N := vl.1) (by omega) p1 with h | ⟨f, hf, rfl⟩
  · refine c_xf_n C h ?_
    refine ⟨_, _, rfl, rfl, ?_⟩
    exact ⟨fun _ => hQ, fun h => absurd rfl h⟩
  refine c_xf_y C hf ?_
  refine ⟨_, _, rfl, rfl, ?_⟩
  refine ⟨fun h => absurd h (by decide), fun _ => ⟨fun _ => hQ, fun h1 => ⟨fun h2 => ?_, fun _ => hQ⟩⟩⟩
  obtain ⟨c, hc, rfl⟩ := in3 (N := 100) (by decide) h1 h2
  exact absurd ⟨f, c, hf, hc, rfl, rfl⟩ hn
theorem c_oddsFrom {f c : Nat} (W : okVl vl) (hf : f < vl.1) (hc : c < 101) (hB : B + 20 < 100000) : ∀ (j i s P : Nat) (I : Nat → Nat → Int32) (J : Nat → Nat → Int64) (R : Nat → Nat → Option Nat) (t c' : Nat) (Q : Option Value → zH → Prop), i + j = 9 → s < 2 ^ i → P ≤ 1000000000 → (∀ p, p < 9 → s.testBit p = true → 0 < st.1 (3 * p + 2)) → MIv G I J R K n m t c' tl tt vl st tp lw sp ap sg B → (∀ I' J' R' t' c', MIv G I' J' R' K n m t' c' tl tt vl st tp lw sp ap sg B → MF m I I' J J' R R' → Q (some (.int (nI (oddF (aW lw) vl.2.1 st.1 f c j i s P)))) (I', J', R', K, n)) → zC G (d + j + 38) mX12_oddsFrom 0 0 [.ref m, .int (nI f), .int (nI i), .int (nI s), .int (nI c), .int (nI P)] (I, J, R, K, n) Q := by
  have h6 := W.1.1
  intro j
  induction j with
  | zero =>
    intro i s P I J R t c' Q hi hs hP ho C hQ
    obtain rfl : i = 9 := by omega
    refine zC.of (by decide) (Nat.le_of_ble_eq_true rfl) ?_
    refine wX12_oddsFrom_0 m t c' C.S_ _ _ _ _ _ ?_
    refine ⟨fun _ => ?_, fun h => absurd rfl h⟩
    refine c_forgivesSet C (s := s) hs ho hB ?_
    intro I1 J1 R1 t1 c1 C1 F1 r1 ok1 _
    refine ⟨_, _, _, _, rfl, rfl, _, _, C1.S_, ?_⟩
    have bl := bareA_le (T := (setF (aW lw) vl.2.1 s st.1 9).1) W.1 hf
    refine c_mbare C1.S_ (Mod_28 C1.S_) C1.v_.1 W.1 r1 ok1 hf ?_
    refine ⟨_, _, rfl, rfl, ?_⟩
    refine qI ?_ (hQ I1 J1 R1 t1 c1 C1 F1)
    have e := (set_rel (Wc := aW lw) C.oks_.1 h6 ho 9 (by omega)).1.bare (Y := vl.2.1) (show f < 6 by omega)
    rw [oddF, ← e, show (0 : Int32) = nI 0 from rfl]
    simp (disch := omega) only [tk_0, tk_1, tk_2, tk_3, tk_4, tk_5, tk_6, tk_7, tk_8, tk_9, tk_10, tk_11, tk_12, tk_13, tk_14, tk_15, tk_16, tk_20, tk_24, tk_25, tk_26, tk_27, tk_28, tk_29, tk_30, tk_31, tk_32, tk_40, tk_41, tk_45, tk_46, tk_47, tk_48, tk_49, tk_50, tk_51, tk_57, tk_60, tk_99, tk_100, tk_120, tk_128, tk_231, tk_240, tk_255, tk_500, tk_999, tk_9999, tk_10000, pk_mul, nI_add, tk_c, tk_in, tk_lt, tk_le, tk_eq, tk_and31, tk_shl1, tk_shr1, tk_and1, tk_or, tk_ite, tk_tb, tk_mn, tk_mx]
  | succ j ih =>
    intro i s P I J R t c' Q hi hs hP ho C hQ
    have hs2 : s < 2 ^ (i + 1) := Nat.lt_of_lt_of_le hs (Nat.pow_le_pow_right (by decide) (by omega))
    have z3 := odd_part (P := P) hc
    rw [oddF] at hQ
    refine zC.of (by decide) (Nat.le_of_ble_eq_true rfl) ?_
    refine wX12_oddsFrom_0 m t c' C.S_ _ _ _ _ _ ?_
    refine ⟨fun h => ?_, fun _ => ?_⟩
    · rw [show (9 : Int32) = nI 9 from rfl, tk_eq (by omega) (by omega)] at h
      omega
    rw [nI_1]
    by_cases ho' : 0 < st.1 (3 * i + 2)
    · obtain ⟨o1, o2, -⟩ := (C.oks_.1.1 i (by omega)).2 ho'
      refine c_mo_y (Mod_26 C.S_) C.mr C.oks_.1 (p := i) (by omega) ho' ?_
      refine ⟨_, _, rfl, rfl, ?_⟩
      refine ⟨fun h => absurd h (by decide), fun _ => ?_⟩
      rw [show (3 * nI i : Int32) = nI (3 * i) by rw [show (3 : Int32) = nI 3 from rfl, pk_mul], nI_1, tk_c (by omega), C.mr _ (by omega), tk_eq (by omega) (by omega)]
      refine ⟨(tk_in (by omega) (by omega)).mpr (by omega), fun he => ?_, fun he => ?_⟩
      · rw [if_pos ⟨ho', he⟩] at hQ
        rw [nI_part hP hc, tk_shl i (by omega), tk_or, tk_sub z3]
        refine ih (i + 1) (s ||| 2 ^ i) (P * c / 100) I J R t c' _ (by omega) (or_lt hs) (by omega) (fun p hp h => ?_) C ?_
        · rw [or_bit, Bool.or_eq_true, decide_eq_true_iff] at h
          rcases h with h | rfl
          · exact ho p hp h
          · exact ho'
        intro I1 J1 R1 t1 c1 C1 F1
        refine ⟨_, _, _, _, rfl, rfl, _, _, C1.S_, ?_⟩
        refine ih (i + 1) s (P - P * c / 100) I1 J1 R1 t1 c1 _ (by omega) hs2 (by omega) ho C1 ?_
        intro I2 J2 R2 t2 c2 C2 F2
        refine ⟨_, _, _, _, rfl, rfl, _, _, C2.S_, ?_⟩
        rw [nI_add]
        exact hQ I2 J2 R2 t2 c2 C2 (F1.tr F2)
      · rw [if_neg (fun h => he h.2)] at hQ
        refine ih (i + 1) s P I J R t c' _ (by omega) hs2 hP ho C ?_
        intro I1 J1 R1 t1 c1 C1 F1
        exact ⟨_, _, _, _, rfl, rfl, _, _, C1.S_, hQ I1 J1 R1 t1 c1 C1 F1⟩
    · rw [if_neg (fun h => ho' h.1)] at hQ
      refine c_mo_n (Mod_26 C.S_) C.mr (p := nI i) (Or.inr ⟨i, by omega, rfl, by omega⟩) ?_
      refine ⟨_, _, rfl, rfl, ?_⟩
      refine ⟨fun _ => ?_, fun h => absurd rfl h⟩
      refine ih (i + 1) s P I J R t c' _ (by omega) hs2 hP ho C ?_
      intro I1 J1 R1 t1 c1 C1 F1
      exact ⟨_, _, _, _, rfl, rfl, _, _, C1.S_, hQ I1 J1 R1 t1 c1 C1 F1⟩
theorem y_odds_y (C : MIv G I J R K n m t c tl tt vl st tp lw sp ap sg B) {f b : Nat} (hf : f < vl.1) (hb : b < 101) (hB : B + 20 < 100000) : YL G (d + 48) mX12_odds [.ref m, .int (nI f), .int (nI b)] I J R K n m tl tt (nI (oddF (aW lw) vl.2.1 st.1 f b 9 0 0 1000000000)) vl st tp lw sp ap sg B := by
  intro Q hQ
  have h6 := C.okv_.1.1
  obtain ⟨M1, f1⟩ := C.z0 (y := 0)
  have ho : ∀ p, p < 9 → (0 : Nat).testBit p = true → 0 < st.1 (3 * p + 2) := fun p _ h => by rw [Nat.zero_testBit] at h; exact absurd h (by decide)
  refine zC.of (by decide) (Nat.le_of_ble_eq_true rfl) ?_
  refine wX12_odds_0 m t c C.S_ _ _ ?_
  rintro _ rfl
  refine c_mf_y M1.S_ M1.v_.1.1 h6 hf ?_
  refine ⟨_, _, rfl, rfl, ?_⟩
  refine ⟨fun h => absurd h (by decide), fun _ => ?_⟩
  refine c_in_y (N := 101) (by decide) (by decide) hb ?_
  refine ⟨_, _, rfl, rfl, ?_⟩
  refine ⟨fun h => absurd h (by decide), fun _ => ?_⟩
  refine c_oddsFrom (d := d) C.okv_ hf hb hB 9 0 0 1000000000 _ J R t c _ (by omega) (by decide) (by omega) ho M1 ?_
  intro I' J' R' t' c' C' F'
  have F0 := (MF.z (J := J) (R := R) f1).tr F'
  exact ⟨_, _, _, _, rfl, rfl, _, _, C'.S_, hQ I' J' R' t' c' C' F0.1 F0.2⟩
theorem y_odds_n (C : MIv G I J R K n m t c tl tt vl st tp lw sp ap sg B) (hn : ¬ ∃ f c : Nat, f < vl.1 ∧ c < 101 ∧ p1 = nI f ∧ p2 = nI c) : YL G (d + 3) mX12_odds [.ref m, .int p1, .int p2] I J R K n m tl tt (-1) vl st tp lw sp ap sg B := by
  intro Q hQ
  have h6 := C.okv_.1.1
  obtain ⟨M1, f1⟩ := C.z0 (y := 0)
  replace hQ := hQ _ J R t c M1 (fun b hb => ⟨f1 b hb, rfl⟩) (fun _ _ => rfl)
  refine zC.of (by decide) (Nat.le_of_ble_eq_true rfl) ?_
  refine wX12_odds_0 m t c C.S_ _ _ ?_
  rintro _ rfl
  rcases bad_or (N := vl.1) (by omega) p1 with h | ⟨f, hf, rfl⟩
  · refine c_mf_n M1.S_ M1.v_.1.1 h ?_
    refine ⟨_, _, rfl, rfl, ?_⟩
    exact ⟨fun _ => hQ, fun h => absurd rfl h⟩
  refine c_mf_y M1.S_ M1.v_.1.1 h6 hf ?_
  refine ⟨_, _, rfl, rfl, ?_⟩
  refine ⟨fun h => absurd h (by decide), fun _ => ?_⟩
  rcases bad_or (N := 101) (by omega) p2 with h | ⟨b, hb, rfl⟩
  · refine c_in_n (N := 101) (by decide) (by decide) h ?_
    refine ⟨_, _, rfl, rfl, ?_⟩
    exact ⟨fun _ => hQ, fun h => absurd rfl h⟩
  exact absurd ⟨f, b, hf, hb, rfl, rfl⟩ hn
end
