/-! THE FACE: richest: the model -/
section
variable {G : zG} {d : Nat} {I : Nat → Nat → Int32} {J : Nat → Nat → Int64} {R : Nat → Nat → Option Nat} {K : Nat → Nat × Nat} {n : Nat} {m t c : Nat} {tl : Nat → Nat} {tt : Nat → Nat → Nat} {vl : Vt} {st : Stt} {tp : Tpt} {lw : Lwt} {sp : Spt} {ap : Nat} {sg : Sgt} {B : Nat} {p1 p2 : Int32} {Q : Option Value → zH → Prop}
theorem y_richest_y (C : MIv G I J R K n m t c tl tt vl st tp lw sp ap sg B) {k e : Nat} (hv : 0 < vl.1) (hk : k < 10) (he : e < 2) (hB : B + 20 < 100000) : YL G (d + 38) mX12_richest [.ref m, .int (nI k), .int (nI e)] I J R K n m tl tt (if e = 0 then nI (ricF (yarS vl st lw) (ricP st.1 k) 512) else nI (yarS vl st lw (ricF (yarS vl st lw) (ricP st.1 k) 512))) vl st tp lw sp ap sg B := by
  intro Q hQ
  have h6 := C.okv_.1.1
  obtain ⟨M1, f1⟩ := C.z0 (y := 0)
  have hAo : ∀ p, p < 9 → (opensA st.1).testBit p = true → 0 < st.1 (3 * p + 2) := fun p hp h => by
    unfold opensA at h
    rw [bitsA_bit, openA] at h
    simp at h
    exact h.2
  have y0 : yarS vl st lw 0 = 0 := by
    have := pntF_cut (Wc := aW lw) (Y := vl.2.1) (T := st.1) (s := 0) (i := 0) (by decide) 9
    rw [show 0 + 9 = 9 from rfl] at this
    unfold yarS
    rw [this]
    rfl
  have yl : ∀ s, s < 512 → s &&& opensA st.1 = s → yarS vl st lw s ≤ 9000 := fun s hs hA => pntF_sum C.oks_.1 C.okv_.1 (by omega) (fun p hp h => hAo p hp ((and_sub hs).mp hA p hp h)) 9 (by omega)
  have al : opensA st.1 < 512 := bits_9 _ (by omega)
  have loop : ∀ (j i : Nat) (I2 : Nat → Nat → Int32) (J2 : Nat → Nat → Int64) (R2 : Nat → Nat → Option Nat) (t2 c2 : Nat), i + j = 512 → MIv G I2 J2 R2 K n m t2 c2 tl tt vl st tp lw sp ap sg B → MF m I I2 J J2 R R2 → zV G (d + 38) mX12_richest 0 0 52 [(0, .ref m), (1, .int (nI k)), (2, .int (nI e)), (3, .int (nI (opensA st.1))), (4, .int (nI (ricF (yarS vl st lw) (ricP st.1 k) i))), (5, .int (nI (yarS vl st lw (ricF (yarS vl st lw) (ricP st.1 k) i)))), (6, .int (nI i))] [] (I2, J2, R2, K, n) Q := by
    intro j
    induction j with
    | zero =>
      intro i I2 J2 R2 t2 c2 hi C2 F2
      obtain rfl : i = 512 := by omega
      refine wX12_richest_52 m t2 c2 C2.S_ _ _ _ _ _ _ ⟨fun _ => qI ?_ (hQ I2 J2 R2 t2 c2 C2 F2.1 F2.2), fun h => absurd (by decide) h⟩
      by_cases h : e = 0
      · rw [if_pos h, if_pos (by rw [h]; rfl)]
      · rw [if_neg h, if_neg (show ¬ nI e = (0 : Int32) from fun h2 => h ((tk_eq (b := 0) (by omega) (by omega)).mp h2))]
    | succ j ih =>
      intro i I2 J2 R2 t2 c2 hi C2 F2
      have ip := pop_le i (by omega)
      have bl := ric_lt (g := yarS vl st lw) (P := ricP st.1 k) ricP0 i (by omega)
      have bi := ricF_in (g := yarS vl st lw) (P := ricP st.1 k) ricP0 i
      have bp := pop_le _ bl
      have bP := bi.2
      unfold ricP at bP
      rw [Bool.and_eq_true, decide_eq_true_iff, decide_eq_true_iff] at bP
      have by_ := yl _ bl bP.1
      have b0 : i = 0 ∨ ricF (yarS vl st lw) (ricP st.1 k) i < i := by
        cases i with
        | zero => exact Or.inl rfl
        | succ i => exact Or.inr (ric_small i)
      have skip : ∀ I3 J3 R3 t3 c3, MIv G I3 J3 R3 K n m t3 c3 tl tt vl st tp lw sp ap sg B → MF m I I3 J J3 R R3 → ¬ (ricP st.1 k i = true ∧ kyR (yarS vl st lw) i < kyR (yarS vl st lw) (ricF (yarS vl st lw) (ricP st.1 k) i)) → zV G (d + 38) mX12_richest 0 0 52 [(0, .ref m), (1, .int (nI k)), (2, .int (nI e)), (3, .int (nI (opensA st.1))), (4, .int (nI (ricF (yarS vl st lw) (ricP st.1 k) i))), (5, .int (nI (yarS vl st lw (ricF (yarS vl st lw) (ricP st.1 k) i)))), (6, .int (nI (i + 1)))] [] (I3, J3, R3, K, n) Q := by
        intro I3 J3 R3 t3 c3 C3 F3 hn
        have := ih (i + 1) I3 J3 R3 t3 c3 (by omega) C3 F3
        rw [ricF, if_neg hn] at this
        exact this
      have take : ∀ I3 J3 R3 t3 c3, MIv G I3 J3 R3 K n m t3 c3 tl tt vl st tp lw sp ap sg B → MF m I I3 J J3 R R3 → (ricP st.1 k i = true ∧ kyR (yarS vl st lw) i < kyR (yarS vl st lw) (ricF (yarS vl st lw) (ricP st.1 k) i)) → zV G (d + 38) mX12_richest 0 0 52 [(0, .ref m), (1, .int (nI k)), (2, .int (nI e)), (3, .int (nI (opensA st.1))), (4, .int (nI i)), (5, .int (nI (yarS vl st lw i))), (6, .int (nI (i + 1)))] [] (I3, J3, R3, K, n) Q := by
        intro I3 J3 R3 t3 c3 C3 F3 hn
        have := ih (i + 1) I3 J3 R3 t3 c3 (by omega) C3 F3
        rw [ricF, if_pos hn] at this
        exact this
      obtain ⟨b, hbE⟩ : ∃ b, b = ricF (yarS vl st lw) (ricP st.1 k) i := ⟨_, rfl⟩
      rw [← hbE] at bl bp by_ skip take b0 ⊢
      refine wX12_richest_52 m t2 c2 C2.S_ _ _ _ _ _ _ ⟨fun h => ?_, fun _ => ?_⟩
      · rw [show (512 : Int32) = nI 512 from rfl, tk_le (by omega) (by omega)] at h
        omega
      rw [tk_out (by omega), nI_1]
      refine ⟨fun hs => ?_, fun hs => skip I2 J2 R2 t2 c2 C2 F2 (fun h => hs ?_)⟩
      case refine_2 =>
        have h := h.1
        unfold ricP at h
        rw [Bool.and_eq_true, decide_eq_true_iff] at h
        exact h.1
      refine c_bc10 (s := i) (by omega) ?_
      refine ⟨_, rfl, rfl, ?_⟩
      rw [tk_le (by omega) (by omega)]
      refine ⟨fun hp => ?_, fun hp => skip I2 J2 R2 t2 c2 C2 F2 (fun h => hp ?_)⟩
      case refine_2 =>
        have h := h.1
        unfold ricP at h
        rw [Bool.and_eq_true, decide_eq_true_iff, decide_eq_true_iff] at h
        exact h.2
      have hPi : ricP st.1 k i = true := by
        unfold ricP
        rw [Bool.and_eq_true, decide_eq_true_iff, decide_eq_true_iff]
        exact ⟨hs, hp⟩
      have ho : ∀ p, p < 9 → i.testBit p = true → 0 < st.1 (3 * p + 2) := fun p hp h => hAo p hp ((and_sub (by omega)).mp hs p hp h)
      have yi := yl i (by omega) hs
      refine c_forgivesSet C2 (s := i) (by omega) ho hB ?_
      intro I3 J3 R3 t3 c3 C3 F3 r3 ok3 _
      refine ⟨_, _, _, _, rfl, rfl, _, _, C3.S_, ?_⟩
      have e2 : (setF (aW lw) vl.2.1 i st.1 9).2 = yarS vl st lw i := (set_rel (Wc := aW lw) C.oks_.1 h6 ho 9 (by omega)).2.symm
      rw [e2, tk_lt (by omega) (by omega), tk_eq (by omega) (by omega)]
      refine ⟨fun h => skip I3 J3 R3 t3 c3 C3 (F2.tr F3) (fun h2 => by have h3 := h2.2; unfold kyR at h3; omega), fun h => ⟨fun h1 => ?_, fun h1 => take I3 J3 R3 t3 c3 C3 (F2.tr F3) ⟨hPi, by unfold kyR; omega⟩⟩⟩
      refine c_bc10 (s := i) (by omega) ?_
      refine ⟨_, rfl, rfl, ?_⟩
      refine c_bc10 (s := b) (by omega) ?_
      refine ⟨_, rfl, rfl, ?_⟩
      rw [tk_lt (by omega) (by omega)]
      refine ⟨fun h2 => take I3 J3 R3 t3 c3 C3 (F2.tr F3) ⟨hPi, by unfold kyR; omega⟩, fun h2 => skip I3 J3 R3 t3 c3 C3 (F2.tr F3) (fun h3 => ?_)⟩
      have h4 := h3.2
      unfold kyR at h4
      rcases b0 with h5 | h5
      · subst h5
        have : b = 0 := by rw [hbE]; rfl
        subst this
        omega
      · omega
  refine zC.of (by decide) (Nat.le_of_ble_eq_true rfl) ?_
  refine wX12_richest_0 m t c C.S_ _ _ ?_
  rintro _ rfl
  rw [M1.v_.1.1]
  refine ⟨fun h => ?_, fun _ => ?_⟩
  · rw [show (0 : Int32) = nI 0 from rfl, tk_eq (by omega) (by omega)] at h
    omega
  refine c_in_y (N := 10) (by decide) (by decide) hk ?_
  refine ⟨_, _, rfl, rfl, ?_⟩
  refine ⟨fun h => absurd h (by decide), fun _ => ?_⟩
  refine c_in_y (N := 2) (by decide) (by decide) he ?_
  refine ⟨_, _, rfl, rfl, ?_⟩
  refine ⟨fun h => absurd h (by decide), fun _ => ?_⟩
  refine c_mopens M1.S_ M1.mr C.oks_.1 C.okv_.1 (k := 0) ?_
  refine ⟨_, _, rfl, rfl, ?_⟩
  have := loop 511 1 _ J R t c (by omega) M1 (MF.z f1)
  rw [show ricF (yarS vl st lw) (ricP st.1 k) 1 = 0 by rw [ricF, if_neg (fun h => by have h2 := h.2; rw [ricF] at h2; omega)]; rfl, y0] at this
  exact this
theorem y_richest_n (C : MIv G I J R K n m t c tl tt vl st tp lw sp ap sg B) (hn : ¬ (0 < vl.1 ∧ ∃ k e : Nat, k < 10 ∧ e < 2 ∧ p1 = nI k ∧ p2 = nI e)) : YL G (d + 3) mX12_richest [.ref m, .int p1, .int p2] I J R K n m tl tt (-1) vl st tp lw sp ap sg B := by
  intro Q hQ
  have h6 := C.okv_.1.1
  obtain ⟨M1, f1⟩ := C.z0 (y := 0)
  replace hQ := hQ _ J R t c M1 (fun b hb => ⟨f1 b hb, rfl⟩) (fun _ _ => rfl)
  refine zC.of (by decide) (Nat.le_of_ble_eq_true rfl) ?_
  refine wX12_richest_0 m t c C.S_ _ _ ?_
  rintro _ rfl
  rw [M1.v_.1.1]
  refine ⟨fun _ => hQ, fun hv => ?_⟩
  have hv' : 0 < vl.1 := by
    rcases Nat.eq_zero_or_pos vl.1 with h | h
    · exact absurd (by rw [h]; rfl) hv
    · exact h
  rcases bad_or (N := 10) (by omega) p1 with h | ⟨k, hk, rfl⟩
  · refine c_in_n (N := 10) (by decide) (by decide) h ?_
    refine ⟨_, _, rfl, rfl, ?_⟩
    exact ⟨fun _ => hQ, fun h => absurd rfl h⟩
  refine c_in_y (N := 10) (by decide) (by decide) hk ?_
  refine ⟨_, _, rfl, rfl, ?_⟩
  refine ⟨fun h => absurd h (by decide), fun _ => ?_⟩
  rcases bad_or (N := 2) (by omega) p2 with h | ⟨b, hb, rfl⟩
  · refine c_in_n (N := 2) (by decide) (by decide) h ?_
    refine ⟨_, _, rfl, rfl, ?_⟩
    exact ⟨fun _ => hQ, fun h => absurd rfl h⟩
  exact absurd ⟨hv', k, b, hk, hb, rfl, rfl⟩ hn
end
