/-! THE FACE: least, every: the model -/
theorem bv_out (x y : BitVec 32) : x &&& (y ^^^ BitVec.allOnes 32) = 0#32 ↔ x &&& y = x := by
  constructor
  · intro h
    apply BitVec.eq_of_getLsbD_eq
    intro i hi
    have e : (x &&& (y ^^^ BitVec.allOnes 32)).getLsbD i = (0#32).getLsbD i := by rw [h]
    rw [BitVec.getLsbD_and, BitVec.getLsbD_xor, BitVec.getLsbD_allOnes, BitVec.getLsbD_zero, decide_eq_true hi] at e
    rw [BitVec.getLsbD_and]
    revert e
    cases x.getLsbD i <;> cases y.getLsbD i <;> decide
  · intro h
    apply BitVec.eq_of_getLsbD_eq
    intro i hi
    have e : (x &&& y).getLsbD i = x.getLsbD i := by rw [h]
    rw [BitVec.getLsbD_and, BitVec.getLsbD_xor, BitVec.getLsbD_allOnes, BitVec.getLsbD_zero, decide_eq_true hi]
    rw [BitVec.getLsbD_and] at e
    revert e
    cases x.getLsbD i <;> cases y.getLsbD i <;> decide
theorem tk_out {a b : Nat} (ha : a < 2147483648) : nI a &&& (nI b ^^^ (-1)) = 0 ↔ a &&& b = a := by
  have h : nI a &&& (nI b ^^^ (-1)) = 0 ↔ nI a &&& nI b = nI a := by
    rw [← Int32.toBitVec_inj, ← Int32.toBitVec_inj, Int32.toBitVec_and, Int32.toBitVec_and, Int32.toBitVec_xor]
    exact bv_out _ _
  rw [h, tk_and, tk_eq (Nat.lt_of_le_of_lt Nat.and_le_left ha) ha]
section
variable {G : zG} {d : Nat} {I : Nat → Nat → Int32} {J : Nat → Nat → Int64} {R : Nat → Nat → Option Nat} {K : Nat → Nat × Nat} {n : Nat} {m t c : Nat} {tl : Nat → Nat} {tt : Nat → Nat → Nat} {vl : Vt} {st : Stt} {tp : Tpt} {lw : Lwt} {sp : Spt} {ap : Nat} {sg : Sgt} {B : Nat} {p1 p2 : Int32} {Q : Option Value → zH → Prop}
theorem WipR.whites {Z : Nat → Prop} {Tc Tm Y : Nat → Nat} {nf : Nat} (h : WipR Z Tc Tm) (h6 : nf ≤ 6) : whitesA nf Y Tm = whitesA nf Y Tc := by
  unfold whitesA
  apply bitsA_congr
  intro f hf
  rw [h.bare (by omega)]
theorem c_fewest (C : MIv G I J R K n m t c tl tt vl st tp lw sp ap sg B) {A F : Nat} (hA : A < 512) (hAo : ∀ p, p < 9 → A.testBit p = true → 0 < st.1 (3 * p + 2)) (hF : F < 64) (hB : B + 20 < 100000) (hQ : ∀ I' J' R' t' c', MIv G I' J' R' K n m t' c' tl tt vl st tp lw sp ap sg B → MF m I I' J J' R R' → Q (some (.int (kyA 0 (fewF (whP (aW lw) vl.1 vl.2.1 st.1 A F) 512)))) (I', J', R', K, n)) : zC G (d + 38) mX12_fewest 0 0 [.ref m, .int (nI A), .int (nI F)] (I, J, R, K, n) Q := by
  have h6 := C.okv_.1.1
  refine zC.of (by decide) (Nat.le_of_ble_eq_true rfl) ?_
  refine wX12_fewest_0 m t c C.S_ _ _ ?_
  have loop : ∀ (j i : Nat) (I2 : Nat → Nat → Int32) (J2 : Nat → Nat → Int64) (R2 : Nat → Nat → Option Nat) (t2 c2 : Nat), i + j = 512 → MIv G I2 J2 R2 K n m t2 c2 tl tt vl st tp lw sp ap sg B → MF m I I2 J J2 R R2 → zV G (d + 38) mX12_fewest 0 0 5 [(0, .ref m), (1, .int (nI A)), (2, .int (nI F)), (3, .int (kyA 0 (fewF (whP (aW lw) vl.1 vl.2.1 st.1 A F) i))), (4, .int (nI i))] [] (I2, J2, R2, K, n) Q := by
    intro j
    induction j with
    | zero =>
      intro i I2 J2 R2 t2 c2 hi C2 F2
      obtain rfl : i = 512 := by omega
      exact wX12_fewest_5 m t2 c2 C2.S_ _ _ _ _ ⟨fun _ => hQ I2 J2 R2 t2 c2 C2 F2, fun h => absurd (by decide) h⟩
    | succ j ih =>
      intro i I2 J2 R2 t2 c2 hi C2 F2
      have ip := pop_le i (by omega)
      have skip : ∀ I3 J3 R3 t3 c3, MIv G I3 J3 R3 K n m t3 c3 tl tt vl st tp lw sp ap sg B → MF m I I3 J J3 R R3 → ¬ (whP (aW lw) vl.1 vl.2.1 st.1 A F i = true ∧ kyO (some i) < kyO (fewF (whP (aW lw) vl.1 vl.2.1 st.1 A F) i)) → zV G (d + 38) mX12_fewest 0 0 5 [(0, .ref m), (1, .int (nI A)), (2, .int (nI F)), (3, .int (kyA 0 (fewF (whP (aW lw) vl.1 vl.2.1 st.1 A F) i))), (4, .int (nI (i + 1)))] [] (I3, J3, R3, K, n) Q := by
        intro I3 J3 R3 t3 c3 C3 F3 hn
        have := ih (i + 1) I3 J3 R3 t3 c3 (by omega) C3 F3
        rw [fewF, if_neg hn] at this
        exact this
      have take : ∀ I3 J3 R3 t3 c3, MIv G I3 J3 R3 K n m t3 c3 tl tt vl st tp lw sp ap sg B → MF m I I3 J J3 R R3 → (whP (aW lw) vl.1 vl.2.1 st.1 A F i = true ∧ kyO (some i) < kyO (fewF (whP (aW lw) vl.1 vl.2.1 st.1 A F) i)) → zV G (d + 38) mX12_fewest 0 0 5 [(0, .ref m), (1, .int (nI A)), (2, .int (nI F)), (3, .int (nI i)), (4, .int (nI (i + 1)))] [] (I3, J3, R3, K, n) Q := by
        intro I3 J3 R3 t3 c3 C3 F3 hn
        have := ih (i + 1) I3 J3 R3 t3 c3 (by omega) C3 F3
        rw [fewF, if_pos hn] at this
        exact this
      refine wX12_fewest_5 m t2 c2 C2.S_ _ _ _ _ ⟨fun h => ?_, fun _ => ?_⟩
      · rw [show (512 : Int32) = nI 512 from rfl, tk_le (by omega) (by omega)] at h
        omega
      rw [tk_out (by omega), nI_1]
      refine ⟨fun hs => ?_, fun hs => skip I2 J2 R2 t2 c2 C2 F2 (fun h => hs ?_)⟩
      case refine_2 =>
        have h := h.1
        unfold whP at h
        rw [Bool.and_eq_true, decide_eq_true_iff] at h
        exact h.1
      have try_ : kyO (some i) < kyO (fewF (whP (aW lw) vl.1 vl.2.1 st.1 A F) i) → zC G (d + 37) mX12_forgivesSet 0 0 [.ref m, .int (nI i)] (I2, J2, R2, K, n) (fun r h => ∃ (x4 : Int32) (I5 : Nat → Nat → Int32) (J6 : Nat → Nat → Int64) (R7 : Nat → Nat → Option Nat), r = some (.int x4) ∧ h = (I5, J6, R7, K, n) ∧ ∃ u8 u9 : Nat, hMod G R7 K n m u8 u9 ∧ zC G (d + 37) mX12_whites 0 0 [.ref m, .ref (m + 14)] (I5, J6, R7, K, n) (fun r h => ∃ (x11 : Int32) (I12 : Nat → Nat → Int32), r = some (.int x11) ∧ h = (I12, J6, R7, K, n) ∧ (((nI F &&& (x11 ^^^ (-1)) : Int32) = 0 → zV G (d + 37 + 1) mX12_fewest 0 0 5 [(0, .ref m), (1, .int (nI A)), (2, .int (nI F)), (3, .int (nI i)), (4, .int (nI (i + 1)))] [] (I12, J6, R7, K, n) Q) ∧ (¬ ((nI F &&& (x11 ^^^ (-1)) : Int32) = 0) → zV G (d + 37 + 1) mX12_fewest 0 0 5 [(0, .ref m), (1, .int (nI A)), (2, .int (nI F)), (3, .int (kyA 0 (fewF (whP (aW lw) vl.1 vl.2.1 st.1 A F) i))), (4, .int (nI (i + 1)))] [] (I12, J6, R7, K, n) Q)))) := by
        intro hk
        have ho : ∀ p, p < 9 → i.testBit p = true → 0 < st.1 (3 * p + 2) := fun p hp h => hAo p hp ((and_sub (by omega)).mp hs p hp h)
        refine c_forgivesSet C2 (s := i) (by omega) ho hB ?_
        intro I3 J3 R3 t3 c3 C3 F3 r3 ok3 _
        refine ⟨_, _, _, _, rfl, rfl, _, _, C3.S_, ?_⟩
        refine c_mwhites C3.S_ (Mod_28 C3.S_) C3.v_.1 C.okv_.1 r3 ok3 ?_
        refine ⟨_, _, rfl, rfl, ?_⟩
        have e := (set_rel (Wc := aW lw) C.oks_.1 h6 ho 9 (by omega)).1.whites (Y := vl.2.1) h6
        rw [tk_out (by omega), e, Nat.and_comm]
        have ew : whP (aW lw) vl.1 vl.2.1 st.1 A F i = true ↔ whitesA vl.1 vl.2.1 (pntF (aW lw) vl.2.1 i st.1 9).1 &&& F = F := by
          unfold whP
          rw [decide_eq_true hs, Bool.true_and, decide_eq_true_iff]
        exact ⟨fun h => take I3 J3 R3 t3 c3 C3 (F2.tr F3) ⟨ew.mpr h, hk⟩, fun h => skip I3 J3 R3 t3 c3 C3 (F2.tr F3) (fun h2 => h (ew.mp h2.1))⟩
      cases hb : fewF (whP (aW lw) vl.1 vl.2.1 st.1 A F) i with
      | none =>
        rw [hb] at try_ skip
        refine ⟨fun _ => try_ (by simp only [kyO]; omega), fun h => absurd rfl h⟩
      | some s0 =>
        obtain ⟨l0, -⟩ := fewF_in hb
        have sp0 := pop_le s0 (by omega)
        rw [hb] at try_ skip
        have e0 : kyA 0 (some s0) = nI s0 := rfl
        rw [e0] at try_ skip ⊢
        refine ⟨fun h => absurd h (by rw [tk_m1 (by omega)]; exact not_false), fun _ => ?_⟩
        refine c_bc10 (s := i) (by omega) ?_
        refine ⟨_, rfl, rfl, ?_⟩
        refine c_bc10 (s := s0) (by omega) ?_
        refine ⟨_, rfl, rfl, ?_⟩
        rw [tk_lt (by omega) (by omega)]
        exact ⟨fun h => try_ (by simp only [kyO]; omega), fun h => skip I2 J2 R2 t2 c2 C2 F2 (fun h2 => by have h3 := h2.2; simp only [kyO] at h3; omega)⟩
  exact loop 512 0 I J R t c (by omega) C MF.rf
theorem c_told0 {P : Nat → Bool} {k : Nat} (hk : k < 2) (hQ : Q (some (.int (kyA k (fewF P 512)))) (I, J, R, K, n)) : zC G (d + 2) mX12_told0 0 0 [.int (kyA 0 (fewF P 512)), .int (nI k)] (I, J, R, K, n) Q := by
  refine zC.of (by decide) (Nat.le_of_ble_eq_true rfl) ?_
  refine wX12_told0_0 _ _ ?_
  cases hb : fewF P 512 with
  | none =>
    rw [hb] at hQ
    exact ⟨fun _ => hQ, fun h => absurd rfl h⟩
  | some s =>
    obtain ⟨l0, -⟩ := fewF_in hb
    rw [hb] at hQ
    have e0 : kyA 0 (some s) = nI s := rfl
    rw [e0]
    refine ⟨fun h => absurd h (by rw [tk_m1 (by omega)]; exact not_false), fun _ => ?_⟩
    rw [show (0 : Int32) = nI 0 from rfl, tk_eq (by omega) (by omega)]
    refine ⟨fun h => ?_, fun h => ?_⟩
    · subst h
      exact hQ
    · obtain rfl : k = 1 := by omega
      refine c_bc10 (s := s) (by omega) ?_
      refine ⟨_, rfl, rfl, ?_⟩
      exact hQ
theorem y_least_y (C : MIv G I J R K n m t c tl tt vl st tp lw sp ap sg B) {f k : Nat} (hf : f < vl.1) (hk : k < 2) (hB : B + 20 < 100000) : YL G (d + 39) mX12_least [.ref m, .int (nI f), .int (nI k)] I J R K n m tl tt (kyA k (fewF (whP (aW lw) vl.1 vl.2.1 st.1 (toA st.1 f) (2 ^ f)) 512)) vl st tp lw sp ap sg B := by
  intro Q hQ
  have h6 := C.okv_.1.1
  obtain ⟨M1, f1⟩ := C.z0 (y := 0)
  refine zC.of (by decide) (Nat.le_of_ble_eq_true rfl) ?_
  refine wX12_least_0 m t c C.S_ _ _ ?_
  rintro _ rfl
  refine c_mf_y M1.S_ M1.v_.1.1 h6 hf ?_
  refine ⟨_, _, rfl, rfl, ?_⟩
  refine ⟨fun h => absurd h (by decide), fun _ => ?_⟩
  refine c_in_y (N := 2) (by decide) (by decide) hk ?_
  refine ⟨_, _, rfl, rfl, ?_⟩
  refine ⟨fun h => absurd h (by decide), fun _ => ?_⟩
  refine c_openOf M1.S_ M1.mr C.oks_.1 C.okv_.1 (f := f) (k := 1) (by omega) (by omega) ?_
  refine ⟨_, _, rfl, rfl, ?_⟩
  rw [if_neg (by omega), tk_shl f (by omega)]
  refine c_fewest (A := toA st.1 f) M1 (bits_9 _ (by omega)) (fun p hp h => ?_) (Nat.lt_of_le_of_lt (Nat.pow_le_pow_right (n := 2) (j := 5) (by decide) (by omega)) (by decide)) hB ?_
  · unfold toA at h
    rw [bitsA_bit, openA] at h
    simp at h
    exact h.2.1
  intro I' J' R' t' c' C' F'
  have F0 := (MF.z (J := J) (R := R) f1).tr F'
  refine ⟨_, _, _, _, rfl, rfl, _, _, C'.S_, ?_⟩
  refine c_told0 hk ?_
  refine ⟨_, _, rfl, rfl, ?_⟩
  exact hQ I' J' R' t' c' C' F0.1 F0.2
theorem y_least_n (C : MIv G I J R K n m t c tl tt vl st tp lw sp ap sg B) (hn : ¬ ∃ f k : Nat, f < vl.1 ∧ k < 2 ∧ p1 = nI f ∧ p2 = nI k) : YL G (d + 3) mX12_least [.ref m, .int p1, .int p2] I J R K n m tl tt (-1) vl st tp lw sp ap sg B := by
  intro Q hQ
  have h6 := C.okv_.1.1
  obtain ⟨M1, f1⟩ := C.z0 (y := 0)
  replace hQ := hQ _ J R t c M1 (fun b hb => ⟨f1 b hb, rfl⟩) (fun _ _ => rfl)
  refine zC.of (by decide) (Nat.le_of_ble_eq_true rfl) ?_
  refine wX12_least_0 m t c C.S_ _ _ ?_
  rintro _ rfl
  rcases bad_or (N := vl.1) (by omega) p1 with h | ⟨f, hf, rfl⟩
  · refine c_mf_n M1.S_ M1.v_.1.1 h ?_
    refine ⟨_, _, rfl, rfl, ?_⟩
    exact ⟨fun _ => hQ, fun h => absurd rfl h⟩
  refine c_mf_y M1.S_ M1.v_.1.1 h6 hf ?_
  refine ⟨_, _, rfl, rfl, ?_⟩
  refine ⟨fun h => absurd h (by decide), fun _ => ?_⟩
  rcases bad_or (N := 2) (by omega) p2 with h | ⟨b, hb, rfl⟩
  · refine c_in_n (N := 2) (by decide) (by decide) h ?_
    refine ⟨_, _, rfl, rfl, ?_⟩
    exact ⟨fun _ => hQ, fun h => absurd rfl h⟩
  exact absurd ⟨f, b, hf, hb, rfl, rfl⟩ hn
theorem y_every_y (C : MIv G I J R K n m t c tl tt vl st tp lw sp ap sg B) {k : Nat} (hv : 0 < vl.1) (hk : k < 2) (hB : B + 20 < 100000) : YL G (d + 39) mX12_every [.ref m, .int (nI k)] I J R K n m tl tt (kyA k (fewF (whP (aW lw) vl.1 vl.2.1 st.1 (opensA st.1) (2 ^ vl.1 - 1)) 512)) vl st tp lw sp ap sg B := by
  intro Q hQ
  have h6 := C.okv_.1.1
  obtain ⟨M1, f1⟩ := C.z0 (y := 0)
  have p1 : 1 ≤ 2 ^ vl.1 := Nat.one_le_two_pow
  have p2 : 2 ^ vl.1 ≤ 64 := Nat.pow_le_pow_right (n := 2) (j := 6) (by decide) h6
  refine zC.of (by decide) (Nat.le_of_ble_eq_true rfl) ?_
  refine wX12_every_0 m t c C.S_ _ ?_
  rintro _ rfl
  rw [M1.v_.1.1, show (0 : Int32) = nI 0 from rfl, tk_le (by omega) (by omega)]
  refine ⟨fun h => absurd h (by omega), fun _ => ?_⟩
  refine c_in_y (N := 2) (by decide) (by decide) hk ?_
  refine ⟨_, _, rfl, rfl, ?_⟩
  refine ⟨fun h => absurd h (by decide), fun _ => ?_⟩
  refine c_mopens M1.S_ M1.mr C.oks_.1 C.okv_.1 (k := 0) ?_
  refine ⟨_, _, rfl, rfl, ?_⟩
  rw [M1.v_.1.1, tk_shl vl.1 (by omega), show (1 : Int32) = nI 1 from rfl, tk_sub p1]
  refine c_fewest (A := opensA st.1) M1 (bits_9 _ (by omega)) (fun p hp h => ?_) (by omega) hB ?_
  · unfold opensA at h
    rw [bitsA_bit, openA] at h
    simp at h
    exact h.2
  intro I' J' R' t' c' C' F'
  have F0 := (MF.z (J := J) (R := R) f1).tr F'
  refine ⟨_, _, _, _, rfl, rfl, _, _, C'.S_, ?_⟩
  refine c_told0 hk ?_
  refine ⟨_, _, rfl, rfl, ?_⟩
  exact hQ I' J' R' t' c' C' F0.1 F0.2
theorem y_every_n (C : MIv G I J R K n m t c tl tt vl st tp lw sp ap sg B) (hn : ¬ (0 < vl.1 ∧ ∃ k : Nat, k < 2 ∧ p1 = nI k)) : YL G (d + 3) mX12_every [.ref m, .int p1] I J R K n m tl tt (-1) vl st tp lw sp ap sg B := by
  intro Q hQ
  have h6 := C.okv_.1.1
  obtain ⟨M1, f1⟩ := C.z0 (y := 0)
  replace hQ := hQ _ J R t c M1 (fun b hb => ⟨f1 b hb, rfl⟩) (fun _ _ => rfl)
  refine zC.of (by decide) (Nat.le_of_ble_eq_true rfl) ?_
  refine wX12_every_0 m t c C.S_ _ ?_
  rintro _ rfl
  rw [M1.v_.1.1, show (0 : Int32) = nI 0 from rfl, tk_le (by omega) (by omega)]
  refine ⟨fun _ => hQ, fun hv => ?_⟩
  rcases bad_or (N := 2) (by omega) p1 with h | ⟨b, hb, rfl⟩
  · refine c_in_n (N := 2) (by decide) (by decide) h ?_
    refine ⟨_, _, rfl, rfl, ?_⟩
    exact ⟨fun _ => hQ, fun h => absurd rfl h⟩
  exact absurd ⟨by omega, b, hb, rfl⟩ hn
end
