/-! THE FACE: pairs: the model -/
section
variable {G : zG} {d : Nat} {I : Nat → Nat → Int32} {J : Nat → Nat → Int64} {R : Nat → Nat → Option Nat} {K : Nat → Nat × Nat} {n : Nat} {m t c : Nat} {tl : Nat → Nat} {tt : Nat → Nat → Nat} {vl : Vt} {st : Stt} {tp : Tpt} {lw : Lwt} {sp : Spt} {ap : Nat} {sg : Sgt} {B : Nat} {p1 p2 : Int32} {Q : Option Value → zH → Prop}
theorem MIv.z41 (C : MIv G I J R K n m t c tl tt vl st tp lw sp ap sg B) {y z : Int32} : MIv G (zU (zU I m 41 y) m 42 z) J R K n m t c tl tt vl st tp lw sp ap sg B ∧ (∀ b, b < m ∨ m + 21 ≤ b → zU (zU I m 41 y) m 42 z b = I b) := by
  refine ⟨C.same C.S_ (fun b k h => ?_) ?_, fun b hb => by rw [zU_off (by omega), zU_off (by omega)]⟩
  · rw [zU_ne (fun e => h (by unfold scm; omega)), zU_ne (fun e => h (by unfold scm; omega))]
  obtain ⟨l1, l2, l3, l4, l5⟩ := C.lm_
  unfold LMo
  rw [zU_ne (by omega), zU_ne (by omega), zU_off (by omega), zU_off (by omega), zU_off (by omega), zU_off (by omega), zU_off (by omega), zU_off (by omega), zU_off (by omega), zU_off (by omega)]
  exact ⟨l1, l2, l3, l4, l5⟩
theorem c_goPairs (W : okVl vl) (O : okT B vl.1 vl.2.1 st.1) : ∀ (k f r u s : Nat) (b : Option (Nat × Nat)) (I : Nat → Nat → Int32) (J : Nat → Nat → Int64) (R : Nat → Nat → Option Nat) (t c : Nat) (Q : Option Value → zH → Prop), f + k = vl.1 → r < 10 ^ f → s ≤ 1000 * f → u < 64 → MIv G I J R K n m t c tl tt vl st tp lw sp ap sg B → prC 0 (I m 41) (I m 42) b → (∀ I' J' R' t' c', MIv G I' J' R' K n m t' c' tl tt vl st tp lw sp ap sg B → MF m I I' J J' R R' → prC 0 (I' m 41) (I' m 42) (prF (worP vl st lw) st.1 k f r u s b) → Q none (I', J', R', K, n)) → zC G (d + k + 40) mX12_goPairs 0 0 [.ref m, .int (nI f), .int (nI u), .int (nI s), .int (nI r)] (I, J, R, K, n) Q := by
  have h6 := W.1.1
  intro k
  induction k with
  | zero =>
    intro f r u s b I J R t c Q hf hr hs hu C hb hQ
    have r6 : r < 1000000 := Nat.lt_of_lt_of_le hr (Nat.pow_le_pow_right (n := 10) (j := 6) (by decide) (by omega))
    refine zC.of (by decide) (Nat.le_of_ble_eq_true rfl) ?_
    refine wX12_goPairs_0 m t c C.S_ _ _ _ _ ?_
    rw [C.v_.1.1, tk_eq (by omega) (by omega)]
    refine ⟨fun _ => ?_, fun h => absurd (by omega) h⟩
    have put : ∀ I5 I6 : Nat → Nat → Int32, I5 = zU I m 41 (nI r) → I6 = zU I5 m 42 (nI s) → prU b r s = some (r, s) → Q none (I6, J, R, K, n) := by
      intro I5 I6 q5 q6 e
      obtain ⟨M1, f1⟩ := C.z41 (y := nI r) (z := nI s)
      subst q5
      subst q6
      refine hQ _ J R t c M1 (MF.z f1) ?_
      rw [prF, e]
      exact Or.inr ⟨r, s, rfl, r6, by omega, by rw [zU_ne (by omega), zU_self], by rw [zU_self]⟩
    rcases hb with ⟨rfl, e0, e2⟩ | ⟨r0, s0, rfl, hr0, hs0, e0, e2⟩
    · exact ⟨fun _ I5 q5 I6 q6 => put I5 I6 q5 q6 rfl, fun h => absurd e0 h⟩
    · rw [e0, e2, tk_lt (by omega) (by omega)]
      refine ⟨fun h => absurd h (by rw [tk_m1 (by omega)]; exact not_false), fun _ => ⟨fun h I5 q5 I6 q6 => put I5 I6 q5 q6 (if_pos h), fun h => hQ I J R t c C MF.rf ?_⟩⟩
      rw [prF, show prU (some (r0, s0)) r s = some (r0, s0) from if_neg h]
      exact Or.inr ⟨r0, s0, rfl, hr0, hs0, e0, e2⟩
  | succ k ih =>
    intro f r u s b I J R t c Q hf hr hs hu C hb hQ
    have pw := Nat.pow_succ (n := 10) (m := f)
    have loop : ∀ (j i : Nat) (b : Option (Nat × Nat)) (I3 : Nat → Nat → Int32) (J3 : Nat → Nat → Int64) (R3 : Nat → Nat → Option Nat) (t3 c3 : Nat), i + j = 9 → MIv G I3 J3 R3 K n m t3 c3 tl tt vl st tp lw sp ap sg B → MF m I I3 J J3 R R3 → prC 0 (I3 m 41) (I3 m 42) b → (∀ I' J' R' t' c', MIv G I' J' R' K n m t' c' tl tt vl st tp lw sp ap sg B → MF m I I' J J' R R' → prC 0 (I' m 41) (I' m 42) (prF (worP vl st lw) st.1 k (f + 1) (10 * r + 9) u s (prG (fun p b => prF (worP vl st lw) st.1 k (f + 1) (10 * r + p) (u ||| 2 ^ st.1 (3 * p)) (s + worP vl st lw p) b) (prB st.1 f u) j i b)) → Q none (I', J', R', K, n)) → zV G (d + (k + 1) + 40) mX12_goPairs 0 0 40 [(0, .ref m), (1, .int (nI f)), (2, .int (nI u)), (3, .int (nI s)), (4, .int (nI r)), (5, .int (nI i))] [] (I3, J3, R3, K, n) Q := by
      intro j
      induction j with
      | zero =>
        intro i b I3 J3 R3 t3 c3 hi C3 F3 hb hQ
        obtain rfl : i = 9 := by omega
        refine wX12_goPairs_40 m t3 c3 C3.S_ _ _ _ _ _ ⟨fun _ => ?_, fun h => absurd (by decide) h⟩
        rw [show (10 * nI r + 9 : Int32) = nI (10 * r + 9) by rw [show (10 : Int32) = nI 10 from rfl, show (9 : Int32) = nI 9 from rfl, pk_mul, nI_add], nI_1]
        refine ih (f + 1) (10 * r + 9) u s b I3 J3 R3 t3 c3 _ (by omega) (by omega) (by omega) hu C3 hb ?_
        intro I4 J4 R4 t4 c4 C4 F4 hb4
        exact ⟨_, _, _, rfl, rfl, _, _, C4.S_, hQ I4 J4 R4 t4 c4 C4 (F3.tr F4) hb4⟩
      | succ j ihj =>
        intro i b I3 J3 R3 t3 c3 hi C3 F3 hb hQ
        rw [prG] at hQ
        have skip : ¬ prB st.1 f u i = true → zV G (d + (k + 1) + 40) mX12_goPairs 0 0 40 [(0, .ref m), (1, .int (nI f)), (2, .int (nI u)), (3, .int (nI s)), (4, .int (nI r)), (5, .int (nI (i + 1)))] [] (I3, J3, R3, K, n) Q := fun hc => by
          rw [if_neg hc] at hQ
          exact ihj (i + 1) b I3 J3 R3 t3 c3 (by omega) C3 F3 hb hQ
        refine wX12_goPairs_40 m t3 c3 C3.S_ _ _ _ _ _ ⟨fun h => ?_, fun _ => ?_⟩
        · rw [show (9 : Int32) = nI 9 from rfl, tk_le (by omega) (by omega)] at h
          omega
        rw [nI_1, nI_1]
        by_cases ho : 0 < st.1 (3 * i + 2)
        · obtain ⟨o1, o2, -⟩ := (O.1 i (by omega)).2 ho
          refine c_mo_y (Mod_26 C3.S_) C3.mr O (p := i) (by omega) ho ?_
          refine ⟨_, _, rfl, rfl, ?_⟩
          refine ⟨fun h => absurd h (by decide), fun _ => ?_⟩
          rw [show (3 * nI i : Int32) = nI (3 * i) by rw [show (3 : Int32) = nI 3 from rfl, pk_mul], nI_1, tk_c (by omega), tk_c (by omega), C3.mr _ (by omega), C3.mr _ (by omega), tk_eq (by omega) (by omega)]
          refine ⟨(tk_in (by omega) (by omega)).mpr (by omega), fun he => ⟨(tk_in (by omega) (by omega)).mpr (by omega), ?_⟩, fun he => skip ?_⟩
          case refine_2 =>
            unfold prB
            rw [decide_eq_true_iff]
            exact fun h => he h.2.1
          refine c_has (s := u) (k := st.1 (3 * i)) (by omega) (by omega) ?_
          refine ⟨_, _, rfl, rfl, ?_⟩
          by_cases ht : u.testBit (st.1 (3 * i)) = true
          · rw [if_pos ht]
            refine ⟨fun h => absurd h (by decide), fun _ => skip ?_⟩
            unfold prB
            rw [decide_eq_true_iff]
            intro h
            rw [ht] at h
            exact absurd h.2.2 (by decide)
          · rw [if_neg ht]
            refine ⟨fun _ => ⟨(tk_in (by omega) (by omega)).mpr (by omega), ?_⟩, fun h => absurd rfl h⟩
            have hc : prB st.1 f u i = true := decide_eq_true ⟨ho, he, by simpa using ht⟩
            rw [if_pos hc] at hQ
            refine c_myards C3.S_ (Mod_26 C3.S_) C3.lm_ C3.hld C3.v_.1 W.1 C3.mr O (p := i) (by omega) ho ?_
            intro I4 J4 R4 t4 c4 S4 L4 F4
            refine ⟨_, _, _, _, rfl, rfl, _, _, S4, ?_⟩
            obtain ⟨M4, g2, g3⟩ := C3.fmo S4 L4 (F4.wide (fun b h => absurd h not_false))
            have ey : yardsA (aW lw) vl.2.1 st.1 i = worP vl st lw i := by unfold worP; rw [if_pos ho]
            have yl : worP vl st lw i ≤ 1000 := by
              rw [← ey]
              have := (yardsA_le (Wc := aW lw) (Y := vl.2.1) (T := st.1) (p := i)).2
              have o := O.2.2.2.2.2.2.1
              omega
            rw [ey, C3.mr _ (by omega), tk_shl (st.1 (3 * i)) (by omega), tk_or, nI_add, show (10 * nI r + nI i : Int32) = nI (10 * r + i) by rw [show (10 : Int32) = nI 10 from rfl, pk_mul, nI_add]]
            refine ih (f + 1) (10 * r + i) (u ||| 2 ^ st.1 (3 * i)) (s + worP vl st lw i) b I4 J4 R4 t4 c4 _ (by omega) (by omega) (by omega) ?_ M4 (by rw [F4.2.1 41 (by omega), F4.2.1 42 (by omega)]; exact hb) ?_
            · exact Nat.or_lt_two_pow (n := 6) hu (Nat.pow_lt_pow_right (by decide) (by omega))
            intro I5 J5 R5 t5 c5 C5 F5 hb5
            refine ⟨_, _, _, rfl, rfl, _, _, C5.S_, ?_⟩
            exact ihj (i + 1) _ I5 J5 R5 t5 c5 (by omega) C5 ((F3.tr ⟨g2, g3⟩).tr F5) hb5 hQ
        · refine c_mo_n (Mod_26 C3.S_) C3.mr (p := nI i) (Or.inr ⟨i, by omega, rfl, by omega⟩) ?_
          refine ⟨_, _, rfl, rfl, ?_⟩
          refine ⟨fun _ => skip ?_, fun h => absurd rfl h⟩
          unfold prB
          rw [decide_eq_true_iff]
          exact fun h => ho h.1
    refine zC.of (by decide) (Nat.le_of_ble_eq_true rfl) ?_
    refine wX12_goPairs_0 m t c C.S_ _ _ _ _ ?_
    rw [C.v_.1.1, tk_eq (by omega) (by omega)]
    refine ⟨fun h => absurd h (by omega), fun _ => ?_⟩
    rw [prF] at hQ
    exact loop 9 0 b I J R t c (by omega) C MF.rf hb hQ
theorem y_pairs_y (C : MIv G I J R K n m t c tl tt vl st tp lw sp ap sg B) {k : Nat} (hv : 0 < vl.1) (hk : k < 2) : YL G (d + 47) mX12_pairs [.ref m, .int (nI k)] I J R K n m tl tt (prA k (prF (worP vl st lw) st.1 vl.1 0 0 0 0 none)) vl st tp lw sp ap sg B := by
  intro Q hQ
  have h6 := C.okv_.1.1
  obtain ⟨M1, f1⟩ := C.z0 (y := 0)
  refine zC.of (by decide) (Nat.le_of_ble_eq_true rfl) ?_
  refine wX12_pairs_0 m t c C.S_ _ ?_
  rintro _ rfl
  rw [M1.v_.1.1]
  refine ⟨fun h => ?_, fun _ => ?_⟩
  · rw [show (0 : Int32) = nI 0 from rfl, tk_eq (by omega) (by omega)] at h
    omega
  refine c_in_y (N := 2) (by decide) (by decide) hk ?_
  refine ⟨_, _, rfl, rfl, ?_⟩
  refine ⟨fun h => absurd h (by decide), fun _ => ?_⟩
  obtain ⟨M2, f2⟩ := M1.z41 (y := -1) (z := 0)
  rintro _ rfl _ rfl
  obtain ⟨D, hD⟩ : ∃ D, d + 46 = D + vl.1 + 40 := ⟨d + 6 - vl.1, by omega⟩
  rw [hD]
  refine c_goPairs C.okv_ C.oks_.1 vl.1 0 0 0 0 none _ J R t c _ (by omega) (by decide) (by omega) (by omega) M2 (Or.inl ⟨rfl, by rw [zU_ne (by omega), zU_self], by rw [zU_self]⟩) ?_
  intro I' J' R' t' c' C' F' e
  have F0 := (MF.z (J := J) (R := R) f1).tr ((MF.z f2).tr F')
  refine ⟨_, _, _, rfl, rfl, _, _, C'.S_, qI ?_ (hQ I' J' R' t' c' C' F0.1 F0.2)⟩
  rcases e with ⟨e, -⟩ | ⟨r, s, e, -, -, e0, e2⟩
  · exact absurd e prF_some
  rw [e, e0, e2]
  by_cases h : k = 0
  · rw [if_pos (by rw [h]; rfl)]
    exact if_pos h
  · rw [if_neg (show ¬ nI k = (0 : Int32) from fun h2 => h ((tk_eq (b := 0) (by omega) (by omega)).mp h2))]
    exact if_neg h
theorem y_pairs_n (C : MIv G I J R K n m t c tl tt vl st tp lw sp ap sg B) (hn : ¬ (0 < vl.1 ∧ ∃ k : Nat, k < 2 ∧ p1 = nI k)) : YL G (d + 3) mX12_pairs [.ref m, .int p1] I J R K n m tl tt (-1) vl st tp lw sp ap sg B := by
  intro Q hQ
  have h6 := C.okv_.1.1
  obtain ⟨M1, f1⟩ := C.z0 (y := 0)
  replace hQ := hQ _ J R t c M1 (fun b hb => ⟨f1 b hb, rfl⟩) (fun _ _ => rfl)
  refine zC.of (by decide) (Nat.le_of_ble_eq_true rfl) ?_
  refine wX12_pairs_0 m t c C.S_ _ ?_
  rintro _ rfl
  rw [M1.v_.1.1]
  refine ⟨fun _ => hQ, fun hv => ?_⟩
  have hv' : 0 < vl.1 := by
    rcases Nat.eq_zero_or_pos vl.1 with h | h
    · exact absurd (by rw [h]; rfl) hv
    · exact h
  rcases bad_or (N := 2) (by omega) p1 with h | ⟨b, hb, rfl⟩
  · refine c_in_n (N := 2) (by decide) (by decide) h ?_
    refine ⟨_, _, rfl, rfl, ?_⟩
    exact ⟨fun _ => hQ, fun h => absurd rfl h⟩
  exact absurd ⟨hv', b, hb, rfl⟩ hn
end
