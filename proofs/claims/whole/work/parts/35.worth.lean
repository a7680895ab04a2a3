/-! A LAW'S CODE, RUN -/
def wi (x : Int64) : Int32 := (if ((-1000000) : Int64) < (if (1000000 : Int64) < x then 1000000 else x) then (if (1000000 : Int64) < x then 1000000 else x) else (-1000000) : Int64).toInt32
def joinA (p0 p1 p2 : Int32) : Int32 :=
  if p0 = 38 then wi (p1 &&& p2 : Int32).toInt64 else if p0 = 42 then wi (p1.toInt64 * p2.toInt64) else if p0 = 43 then wi (p1.toInt64 + p2.toInt64) else if p0 = 45 then wi (p1.toInt64 - p2.toInt64) else if p0 = 47 then wi (if p2 = 0 then 0 else (p1 / p2 : Int32).toInt64) else if p0 = 60 then wi (if p2 ≤ p1 then 0 else 1) else if p0 = 61 then wi (if p1 = p2 then 1 else 0) else if p0 = 62 then wi (if p1 ≤ p2 then 0 else 1) else if p0 = 124 then wi (p1 ||| p2 : Int32).toInt64 else wi 0
def endA (code : Nat → Int32) (c : Nat) : Nat → Nat → Nat
  | 0, i => i
  | f + 1, i => if c ≤ i then i else if code i = -59 then i else endA code c f (i + 1)
def runA (code : Nat → Int32) (c : Nat) (L : Nat → Int32) : Nat → Nat → List Int32 → Int32
  | 0, _, _ => 0
  | f + 1, i, st => if c ≤ i then 0 else
    if code i < 0 then
      (if st.length < 1 then 0 else if code i = -59 then st.headD 0 else if code i = -63 then (if st.headD 0 = 0 then runA code c L f (endA code c (c - i) i + 1) st.tail else runA code c L f (i + 1) st.tail) else if code i = -33 then runA code c L f (i + 1) ((1 - st.headD 0) :: st.tail) else if st.length < 2 then runA code c L f (i + 1) st else runA code c L f (i + 1) (joinA (-(code i)) (st.tail.headD 0) (st.headD 0) :: st.tail.tail))
    else if 32 ≤ st.length then 0 else if code i - 10000 < 6 then runA code c L f (i + 1) ((if 10000 ≤ code i then L (code i - 10000 : Int32).toNatClampNeg else code i) :: st) else 0
def stk (g : Nat → Int32) : List Int32 → Prop
  | [] => True
  | x :: st => g st.length = x ∧ stk g st
theorem stk_up {g : Nat → Int32} {k : Nat} {x : Int32} : ∀ {st : List Int32}, st.length ≤ k → stk g st → stk (fun j => if j = k then x else g j) st
  | [], _, _ => trivial
  | y :: st, h, hs => ⟨(if_neg (by simp at h; omega)).trans hs.1, stk_up (by simp at h; omega) hs.2⟩
theorem endA_ge (code : Nat → Int32) (c : Nat) : ∀ f i, i ≤ endA code c f i
  | 0, i => Nat.le_refl _
  | f + 1, i => by
    rw [endA]
    split
    · omega
    · split
      · omega
      · exact Nat.le_trans (by omega) (endA_ge code c f (i + 1))
theorem endA_le (code : Nat → Int32) (c : Nat) : ∀ f i, i ≤ c → endA code c f i ≤ c
  | 0, i, h => h
  | f + 1, i, h => by
    rw [endA]
    split
    · omega
    · split
      · omega
      · exact endA_le code c f (i + 1) (by omega)
theorem wi_cmp (x : Int64) : ((if (lg_cmp x 1000000 : Int32) ≤ 0 then (if 0 ≤ (lg_cmp x (-1000000) : Int32) then x else (-1000000)) else 1000000) : Int64).toInt32 = wi x := by
  unfold wi
  by_cases h1 : (1000000 : Int64) < x
  · have h2 : ¬ (lg_cmp x 1000000 : Int32) ≤ 0 := fun h => Int64.not_lt.mpr ((lg_cmp_le _ _).mp h) h1
    rw [if_neg h2, if_pos h1, if_pos (by decide)]
  · have h2 := (lg_cmp_le _ _).mpr (Int64.not_lt.mp h1)
    rw [if_pos h2, if_neg h1]
    by_cases h3 : (-1000000 : Int64) < x
    · rw [if_pos ((lg_cmp_ge _ _).mpr (Int64.le_of_lt h3)), if_pos h3]
    · rw [if_neg h3]
      by_cases h4 : 0 ≤ (lg_cmp x (-1000000) : Int32)
      · rw [if_pos h4, Int64.le_antisymm (Int64.not_lt.mp h3) ((lg_cmp_ge _ _).mp h4)]
      · rw [if_neg h4]
section
variable {G : zG} {d : Nat} {I : Nat → Nat → Int32} {J : Nat → Nat → Int64} {R : Nat → Nat → Option Nat} {K : Nat → Nat × Nat} {n : Nat} {w c b : Nat} {Q : Option Value → zH → Prop}
theorem c_joined (p0 p1 p2 : Int32) (hQ : Q (some (.int (joinA p0 p1 p2))) (I, J, R, K, n)) : zC G (d + 1) mX2_joined 0 0 [.int p0, .int p1, .int p2] (I, J, R, K, n) Q := by
  refine zC.of (by decide) (Nat.le_of_ble_eq_true rfl) ?_
  refine wX2_joined_0 _ _ _ ?_
  unfold joinA at hQ
  refine ⟨fun h => ?_, fun h => ?_, fun h => ?_, fun h => ?_, fun h => ⟨fun h => h, ?_⟩, fun h => ?_, fun h => ?_, fun h => ?_, fun h => ?_, fun h1 h2 h3 h4 h5 h6 h7 h8 h9 => ?_⟩
  · subst h; rw [if_pos rfl] at hQ; rw [wi_cmp]; exact hQ
  · subst h; rw [if_neg (by decide), if_pos rfl] at hQ; rw [wi_cmp]; exact hQ
  · subst h; rw [if_neg (by decide), if_neg (by decide), if_pos rfl] at hQ; rw [wi_cmp]; exact hQ
  · subst h; rw [if_neg (by decide), if_neg (by decide), if_neg (by decide), if_pos rfl] at hQ; rw [wi_cmp]; exact hQ
  · subst h; rw [if_neg (by decide), if_neg (by decide), if_neg (by decide), if_neg (by decide), if_pos rfl] at hQ; rw [wi_cmp]; exact hQ
  · subst h; rw [if_neg (by decide), if_neg (by decide), if_neg (by decide), if_neg (by decide), if_neg (by decide), if_pos rfl] at hQ; rw [wi_cmp]; exact hQ
  · subst h; rw [if_neg (by decide), if_neg (by decide), if_neg (by decide), if_neg (by decide), if_neg (by decide), if_neg (by decide), if_pos rfl] at hQ; rw [wi_cmp]; exact hQ
  · subst h; rw [if_neg (by decide), if_neg (by decide), if_neg (by decide), if_neg (by decide), if_neg (by decide), if_neg (by decide), if_neg (by decide), if_pos rfl] at hQ; rw [wi_cmp]; exact hQ
  · subst h; rw [if_neg (by decide), if_neg (by decide), if_neg (by decide), if_neg (by decide), if_neg (by decide), if_neg (by decide), if_neg (by decide), if_neg (by decide), if_pos rfl] at hQ; rw [wi_cmp]; exact hQ
  · rw [if_neg h1, if_neg h2, if_neg h3, if_neg h4, if_neg h5, if_neg h6, if_neg h7, if_neg h8, if_neg h9] at hQ; rw [wi_cmp]; exact hQ
theorem l_clauseEnd (S : hLaw G R K n w c) (hc : c ≤ 240) {l1 : Int32} : ∀ f i : Nat, i ≤ c → c ≤ i + f → Q (some (.int (nI (endA (I (w + 1)) c f i)))) (I, J, R, K, n) → zV G (d + 1) mX2_clauseEnd 0 0 2 [(0, .ref w), (1, .int l1), (2, .int (nI i))] [] (I, J, R, K, n) Q := by
  intro f
  induction f with
  | zero =>
    intro i h1 h2 hQ
    refine wX2_clauseEnd_2 w c S _ _ ⟨fun _ => hQ, fun h => ?_⟩
    simp (disch := omega) only [tk_0, tk_1, tk_2, tk_3, tk_4, tk_5, tk_6, tk_7, tk_8, tk_9, tk_10, tk_11, tk_12, tk_13, tk_14, tk_15, tk_16, tk_20, tk_24, tk_25, tk_26, tk_27, tk_28, tk_29, tk_30, tk_31, tk_32, tk_40, tk_41, tk_45, tk_46, tk_47, tk_48, tk_49, tk_50, tk_51, tk_57, tk_60, tk_99, tk_100, tk_120, tk_128, tk_231, tk_240, tk_255, tk_500, tk_999, tk_9999, tk_10000, pk_mul, nI_add, tk_c, tk_in, tk_lt, tk_le, tk_eq, tk_and31, tk_shl1, tk_shr1, tk_and1, tk_or, tk_ite, tk_tb, tk_mn, tk_mx] at h
    omega
  | succ f ih =>
    intro i h1 h2 hQ
    rw [endA] at hQ
    refine wX2_clauseEnd_2 w c S _ _ ⟨fun h => ?_, fun h => ?_⟩
    · simp (disch := omega) only [tk_0, tk_1, tk_2, tk_3, tk_4, tk_5, tk_6, tk_7, tk_8, tk_9, tk_10, tk_11, tk_12, tk_13, tk_14, tk_15, tk_16, tk_20, tk_24, tk_25, tk_26, tk_27, tk_28, tk_29, tk_30, tk_31, tk_32, tk_40, tk_41, tk_45, tk_46, tk_47, tk_48, tk_49, tk_50, tk_51, tk_57, tk_60, tk_99, tk_100, tk_120, tk_128, tk_231, tk_240, tk_255, tk_500, tk_999, tk_9999, tk_10000, pk_mul, nI_add, tk_c, tk_in, tk_lt, tk_le, tk_eq, tk_and31, tk_shl1, tk_shr1, tk_and1, tk_or, tk_ite, tk_tb, tk_mn, tk_mx] at h
      rw [if_pos h] at hQ
      exact hQ
    · simp (disch := omega) only [tk_0, tk_1, tk_2, tk_3, tk_4, tk_5, tk_6, tk_7, tk_8, tk_9, tk_10, tk_11, tk_12, tk_13, tk_14, tk_15, tk_16, tk_20, tk_24, tk_25, tk_26, tk_27, tk_28, tk_29, tk_30, tk_31, tk_32, tk_40, tk_41, tk_45, tk_46, tk_47, tk_48, tk_49, tk_50, tk_51, tk_57, tk_60, tk_99, tk_100, tk_120, tk_128, tk_231, tk_240, tk_255, tk_500, tk_999, tk_9999, tk_10000, pk_mul, nI_add, tk_c, tk_in, tk_lt, tk_le, tk_eq, tk_and31, tk_shl1, tk_shr1, tk_and1, tk_or, tk_ite, tk_tb, tk_mn, tk_mx] at h
      rw [if_neg h] at hQ
      simp (disch := omega) only [tk_0, tk_1, tk_2, tk_3, tk_4, tk_5, tk_6, tk_7, tk_8, tk_9, tk_10, tk_11, tk_12, tk_13, tk_14, tk_15, tk_16, tk_20, tk_24, tk_25, tk_26, tk_27, tk_28, tk_29, tk_30, tk_31, tk_32, tk_40, tk_41, tk_45, tk_46, tk_47, tk_48, tk_49, tk_50, tk_51, tk_57, tk_60, tk_99, tk_100, tk_120, tk_128, tk_231, tk_240, tk_255, tk_500, tk_999, tk_9999, tk_10000, pk_mul, nI_add, tk_c, tk_in, tk_lt, tk_le, tk_eq, tk_and31, tk_shl1, tk_shr1, tk_and1, tk_or, tk_ite, tk_tb, tk_mn, tk_mx]
      refine ⟨by omega, fun h3 => ?_, fun h3 => ?_⟩
      · rw [if_pos h3] at hQ
        exact hQ
      · rw [if_neg h3] at hQ
        exact ih (i + 1) (by omega) (by omega) hQ
theorem c_clauseEnd (S : hLaw G R K n w c) (hc : c ≤ 240) {i : Nat} (hi : i ≤ c) (hQ : Q (some (.int (nI (endA (I (w + 1)) c (c - i) i)))) (I, J, R, K, n)) : zC G (d + 1) mX2_clauseEnd 0 0 [.ref w, .int (nI i)] (I, J, R, K, n) Q := by
  refine zC.of (by decide) (Nat.le_of_ble_eq_true rfl) ?_
  refine wX2_clauseEnd_0 w c S _ ?_
  exact l_clauseEnd S hc (c - i) i hi (by omega) hQ
theorem l_worth {I0 : Nat → Nat → Int32} {val : Int32} (S : hLaw G R K n w c) (hb : sA G K n b 32 6) (hbw : b ≠ w + 2) (hc : c ≤ 240) (hQ : ∀ I' : Nat → Nat → Int32, (∀ q, q ≠ w + 2 → I' q = I0 q) → Q (some (.int val)) (I', J, R, K, n)) :
    ∀ (f i : Nat) (st : List Int32) (I : Nat → Nat → Int32), (∀ q, q ≠ w + 2 → I q = I0 q) → stk (I (w + 2)) st → st.length ≤ 32 → i ≤ c + 1 → c < i + f → runA (I0 (w + 1)) c (I0 b) f i st = val →
    zV G (d + 2) mX2_worth 0 0 4 [(0, .ref w), (1, .ref b), (2, .int (nI st.length)), (3, .int (nI i))] [] (I, J, R, K, n) Q := by
  intro f
  induction f with
  | zero =>
    intro i st I hI hs hl hi hf hv
    refine wX2_worth_4 w c b hb S _ _ ⟨fun _ => ?_, fun h => ?_⟩
    · rw [← hv] at hQ; exact hQ I hI
    · simp (disch := omega) only [tk_0, tk_1, tk_2, tk_3, tk_4, tk_5, tk_6, tk_7, tk_8, tk_9, tk_10, tk_11, tk_12, tk_13, tk_14, tk_15, tk_16, tk_20, tk_24, tk_25, tk_26, tk_27, tk_28, tk_29, tk_30, tk_31, tk_32, tk_40, tk_41, tk_45, tk_46, tk_47, tk_48, tk_49, tk_50, tk_51, tk_57, tk_60, tk_99, tk_100, tk_120, tk_128, tk_231, tk_240, tk_255, tk_500, tk_999, tk_9999, tk_10000, pk_mul, nI_add, tk_c, tk_in, tk_lt, tk_le, tk_eq, tk_and31, tk_shl1, tk_shr1, tk_and1, tk_or, tk_ite, tk_tb, tk_mn, tk_mx] at h
      omega
  | succ f ih =>
    intro i st I hI hs hl hi hf hv
    rw [runA] at hv
    have hcode : I (w + 1) = I0 (w + 1) := hI _ (by omega)
    have hL : I b = I0 b := hI _ hbw
    refine wX2_worth_4 w c b hb S _ _ ⟨fun h => ?_, fun h => ?_⟩
    · simp (disch := omega) only [tk_0, tk_1, tk_2, tk_3, tk_4, tk_5, tk_6, tk_7, tk_8, tk_9, tk_10, tk_11, tk_12, tk_13, tk_14, tk_15, tk_16, tk_20, tk_24, tk_25, tk_26, tk_27, tk_28, tk_29, tk_30, tk_31, tk_32, tk_40, tk_41, tk_45, tk_46, tk_47, tk_48, tk_49, tk_50, tk_51, tk_57, tk_60, tk_99, tk_100, tk_120, tk_128, tk_231, tk_240, tk_255, tk_500, tk_999, tk_9999, tk_10000, pk_mul, nI_add, tk_c, tk_in, tk_lt, tk_le, tk_eq, tk_and31, tk_shl1, tk_shr1, tk_and1, tk_or, tk_ite, tk_tb, tk_mn, tk_mx] at h
      rw [if_pos h] at hv
      rw [← hv] at hQ; exact hQ I hI
    · simp (disch := omega) only [tk_0, tk_1, tk_2, tk_3, tk_4, tk_5, tk_6, tk_7, tk_8, tk_9, tk_10, tk_11, tk_12, tk_13, tk_14, tk_15, tk_16, tk_20, tk_24, tk_25, tk_26, tk_27, tk_28, tk_29, tk_30, tk_31, tk_32, tk_40, tk_41, tk_45, tk_46, tk_47, tk_48, tk_49, tk_50, tk_51, tk_57, tk_60, tk_99, tk_100, tk_120, tk_128, tk_231, tk_240, tk_255, tk_500, tk_999, tk_9999, tk_10000, pk_mul, nI_add, tk_c, tk_in, tk_lt, tk_le, tk_eq, tk_and31, tk_shl1, tk_shr1, tk_and1, tk_or, tk_ite, tk_tb, tk_mn, tk_mx] at h
      rw [if_neg h] at hv
      have hci : (nI i).toNatClampNeg = i := tk_c (by omega)
      rw [hcode, hL, hci]
      refine ⟨(tk_in (by omega) (by omega)).mpr (by omega), fun h1 => ?_, fun h1 => ?_⟩
      · rw [if_pos h1] at hv
        cases st with
        | nil =>
          rw [if_pos (by simp)] at hv
          refine ⟨fun h2 => absurd h2 (by decide), fun _ => ?_⟩
          subst hv; exact hQ I hI
        | cons x st1 =>
          rw [if_neg (by simp)] at hv
          simp only [List.headD_cons, List.tail_cons] at hv
          simp only [List.length_cons] at hl ⊢
          have e1 : nI (st1.length + 1) - 1 = nI st1.length := nI_pred _
          have e2 : nI (st1.length + 1) + (-1) = nI st1.length := pk_m1 _
          have e3 : (nI st1.length).toNatClampNeg = st1.length := tk_c (by omega)
          have e4 : nI i + 1 = nI (i + 1) := nI_1 _
          have hin : vp_in (nI st1.length) 32 := (tk_in (by omega) (by omega)).mpr (by omega)
          rw [e1, e2, e3, e4]
          refine ⟨fun _ => ?_, fun h2 => absurd ((tk_le (a := 1) (by omega) (by omega)).mpr (by omega)) h2⟩
          refine ⟨fun h3 => ?_, fun h3 => ?_⟩
          · rw [if_pos h3] at hv
            refine ⟨hin, ?_⟩
            rw [hs.1]
            subst hv; exact hQ I hI
          · rw [if_neg h3] at hv
            refine ⟨fun h4 => ?_, fun h4 => ?_⟩
            · rw [if_pos h4] at hv
              refine ⟨hin, ?_⟩
              rw [hs.1]
              refine ⟨fun h5 => ?_, fun h5 => ?_⟩
              · replace hv := (if_pos h5).symm.trans hv
                have h6 := endA_le (I0 (w + 1)) c (c - i) i (by omega)
                have h7 := endA_ge (I0 (w + 1)) c (c - i) i
                refine c_clauseEnd S hc (i := i) (by omega) ?_
                refine ⟨_, _, rfl, rfl, ?_⟩
                rw [hcode, nI_1]
                exact ih _ st1 I hI hs.2 (by omega) (by omega) (by omega) hv
              · replace hv := (if_neg h5).symm.trans hv
                exact ih _ st1 I hI hs.2 (by omega) (by omega) (by omega) hv
            · rw [if_neg h4] at hv
              refine ⟨fun h5 => ?_, fun h5 => ?_⟩
              · rw [if_pos h5] at hv
                refine ⟨hin, hin, ?_⟩
                rintro _ rfl
                rw [hs.1]
                refine ih (i + 1) ((1 - x) :: st1) _ (fun q hq => by rw [zU_off hq]; exact hI q hq) ?_ (by simp; omega) (by omega) (by omega) hv
                rw [zU_at]
                exact ⟨if_pos rfl, stk_up (Nat.le_refl _) hs.2⟩
              · rw [if_neg h5] at hv
                cases st1 with
                | nil =>
                  rw [if_pos (by simp)] at hv
                  refine ⟨fun _ => ih (i + 1) [x] I hI hs (by simp) (by omega) (by omega) hv, fun h6 => absurd (by decide) h6⟩
                | cons y st2 =>
                  rw [if_neg (by simp)] at hv
                  simp only [List.headD_cons, List.tail_cons] at hv
                  simp only [List.length_cons] at hl hin ⊢
                  have e5 : nI (st2.length + 1) - 1 = nI st2.length := nI_pred _
                  have e6 : (nI st2.length).toNatClampNeg = st2.length := tk_c (by omega)
                  have hin2 : vp_in (nI st2.length) 32 := (tk_in (by omega) (by omega)).mpr (by omega)
                  rw [e5, e6]
                  refine ⟨fun h6 => absurd h6 (by rw [show (2 : Int32) = nI 2 from rfl, tk_lt (by omega) (by omega)]; omega), fun _ => ⟨hin2, hin, ?_⟩⟩
                  have h7 : I (w + 2) (st2.length + 1) = x := hs.1
                  rw [h7, hs.2.1]
                  refine c_joined _ _ _ ?_
                  refine ⟨_, _, rfl, rfl, ?_⟩
                  refine ⟨hin2, ?_⟩
                  rintro _ rfl
                  refine ih (i + 1) (joinA _ y x :: st2) _ (fun q hq => by rw [zU_off hq]; exact hI q hq) ?_ (by simp; omega) (by omega) (by omega) hv
                  rw [zU_at]
                  exact ⟨if_pos rfl, stk_up (Nat.le_refl _) hs.2.2⟩
      · rw [if_neg h1] at hv
        refine ⟨fun h2 => ?_, fun h2 => ?_⟩
        · simp (disch := omega) only [tk_0, tk_1, tk_2, tk_3, tk_4, tk_5, tk_6, tk_7, tk_8, tk_9, tk_10, tk_11, tk_12, tk_13, tk_14, tk_15, tk_16, tk_20, tk_24, tk_25, tk_26, tk_27, tk_28, tk_29, tk_30, tk_31, tk_32, tk_40, tk_41, tk_45, tk_46, tk_47, tk_48, tk_49, tk_50, tk_51, tk_57, tk_60, tk_99, tk_100, tk_120, tk_128, tk_231, tk_240, tk_255, tk_500, tk_999, tk_9999, tk_10000, pk_mul, nI_add, tk_c, tk_in, tk_lt, tk_le, tk_eq, tk_and31, tk_shl1, tk_shr1, tk_and1, tk_or, tk_ite, tk_tb, tk_mn, tk_mx] at h2
          rw [if_pos h2] at hv
          subst hv; exact hQ I hI
        · simp (disch := omega) only [tk_0, tk_1, tk_2, tk_3, tk_4, tk_5, tk_6, tk_7, tk_8, tk_9, tk_10, tk_11, tk_12, tk_13, tk_14, tk_15, tk_16, tk_20, tk_24, tk_25, tk_26, tk_27, tk_28, tk_29, tk_30, tk_31, tk_32, tk_40, tk_41, tk_45, tk_46, tk_47, tk_48, tk_49, tk_50, tk_51, tk_57, tk_60, tk_99, tk_100, tk_120, tk_128, tk_231, tk_240, tk_255, tk_500, tk_999, tk_9999, tk_10000, pk_mul, nI_add, tk_c, tk_in, tk_lt, tk_le, tk_eq, tk_and31, tk_shl1, tk_shr1, tk_and1, tk_or, tk_ite, tk_tb, tk_mn, tk_mx] at h2
          rw [if_neg h2] at hv
          refine ⟨fun h3 => ?_, fun h3 => ?_⟩
          · have h3' : I0 (w + 1) i - 10000 < 6 := h3
            rw [if_pos h3'] at hv
            have hcl : (nI st.length).toNatClampNeg = st.length := tk_c (by omega)
            rw [hcl, nI_1, nI_1]
            refine ⟨fun h4 => ?_, (tk_in (by omega) (by omega)).mpr (by omega), ?_⟩
            · obtain ⟨j, hj, hj2⟩ := nI_of h1
              rw [hj2] at h4 h3' ⊢
              have h4' : nI 10000 ≤ nI j := h4
              rw [tk_le (by omega) (by omega)] at h4'
              have h5 : nI j - 10000 = nI (j - 10000) := tk_sub (a := j) (b := 10000) h4'
              rw [h5] at h3' ⊢
              have h6 : nI (j - 10000) < nI 6 := h3'
              rw [tk_lt (by omega) (by omega)] at h6
              exact (tk_in (by omega) (by omega)).mpr h6
            · rintro _ rfl
              refine ih (i + 1) (_ :: st) _ (fun q hq => by rw [zU_off hq]; exact hI q hq) ?_ (by simp; omega) (by omega) (by omega) hv
              rw [zU_at]
              exact ⟨if_pos rfl, stk_up (Nat.le_refl _) hs⟩
          · have h3' : ¬ (I0 (w + 1) i - 10000 < 6) := h3
            rw [if_neg h3'] at hv
            subst hv; exact hQ I hI
def worthA (code : Nat → Int32) (c : Nat) (L : Nat → Int32) : Int32 := runA code c L (c + 1) 0 []
theorem c_worth (S : hLaw G R K n w c) (hb : sA G K n b 32 6) (hbw : b ≠ w + 2) (hc : c ≤ 240) (hQ : ∀ I' : Nat → Nat → Int32, (∀ q, q ≠ w + 2 → I' q = I q) → Q (some (.int (worthA (I (w + 1)) c (I b)))) (I', J, R, K, n)) : zC G (d + 2) mX2_worth 0 0 [.ref w, .ref b] (I, J, R, K, n) Q := by
  refine zC.of (by decide) (Nat.le_of_ble_eq_true rfl) ?_
  refine wX2_worth_0 w c b hb S ?_
  exact l_worth S hb hbw hc hQ (c + 1) 0 [] I (fun _ _ => rfl) trivial (by simp) (by omega) (by omega) rfl
end
