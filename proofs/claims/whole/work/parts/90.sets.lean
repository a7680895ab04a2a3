/-! A SET OF WRONGS FORGIVEN, ONE BY ONE -/
def setF (Wc : Nat → Nat → Nat → Nat → Nat → Nat → Nat) (Y : Nat → Nat) (s : Nat) (T : Nat → Nat) : Nat → (Nat → Nat) × Nat
  | 0 => (T, 0)
  | i + 1 => if s.testBit i = true then (pardonT Wc Y (setF Wc Y s T i).1 i, (setF Wc Y s T i).2 + yardsA Wc Y (setF Wc Y s T i).1 i) else setF Wc Y s T i
theorem pard_low {Wc : Nat → Nat → Nat → Nat → Nat → Nat → Nat} {Y T : Nat → Nat} {p k : Nat} (hk : k < 27) (h : k < 3 * p ∨ 3 * p + 2 < k) : pardonT Wc Y T p k = T k := by
  unfold pardonT
  rw [up_ne (by omega), zeroT_ne h, paint_low hk]
theorem setF_low {Wc : Nat → Nat → Nat → Nat → Nat → Nat → Nat} {Y T : Nat → Nat} {s k : Nat} (hk : k < 27) : ∀ i, 3 * i ≤ k → (setF Wc Y s T i).1 k = T k
  | 0, _ => rfl
  | i + 1, h => by
    rw [setF]
    split
    · show pardonT Wc Y _ i k = T k
      rw [pard_low hk (by omega)]
      exact setF_low hk i (by omega)
    · exact setF_low hk i (by omega)
section
variable {G : zG} {d : Nat} {I : Nat → Nat → Int32} {J : Nat → Nat → Int64} {R : Nat → Nat → Option Nat} {K : Nat → Nat × Nat} {n : Nat} {m t c : Nat} {tl : Nat → Nat} {tt : Nat → Nat → Nat} {vl : Vt} {st : Stt} {tp : Tpt} {lw : Lwt} {sp : Spt} {ap : Nat} {sg : Sgt} {B : Nat} {Q : Option Value → zH → Prop}
theorem c_forgivesSet (C : MIv G I J R K n m t c tl tt vl st tp lw sp ap sg B) {s : Nat} (hs : s < 512) (ho : ∀ p, p < 9 → s.testBit p = true → 0 < st.1 (3 * p + 2)) (hB : B + 20 < 100000) (hQ : ∀ I' J' R' t' c', MIv G I' J' R' K n m t' c' tl tt vl st tp lw sp ap sg B → MF m I I' J J' R R' → MR I' (m + 14) (setF (aW lw) vl.2.1 s st.1 9).1 → okT (B + 9) vl.1 vl.2.1 (setF (aW lw) vl.2.1 s st.1 9).1 → (setF (aW lw) vl.2.1 s st.1 9).2 ≤ 9000 → Q (some (.int (nI (setF (aW lw) vl.2.1 s st.1 9).2))) (I', J', R', K, n)) : zC G (d + 37) mX12_forgivesSet 0 0 [.ref m, .int (nI s)] (I, J, R, K, n) Q := by
  have h6 := C.okv_.1.1
  refine zC.of (by decide) (Nat.le_of_ble_eq_true rfl) ?_
  refine wX12_forgivesSet_0 m t c C.S_ _ ?_
  refine c_copy (Mod_26 C.S_) (Mod_28 C.S_) (by omega) C.mr ?_
  intro I1 r1 _ g1
  refine ⟨_, rfl, rfl, ?_⟩
  have loop : ∀ (j i : Nat) (I2 : Nat → Nat → Int32) (J2 : Nat → Nat → Int64) (R2 : Nat → Nat → Option Nat) (t2 c2 : Nat), i + j = 9 → MIv G I2 J2 R2 K n m t2 c2 tl tt vl st tp lw sp ap sg B → MF m I I2 J J2 R R2 → MR I2 (m + 14) (setF (aW lw) vl.2.1 s st.1 i).1 → okT (B + i) vl.1 vl.2.1 (setF (aW lw) vl.2.1 s st.1 i).1 → (setF (aW lw) vl.2.1 s st.1 i).2 ≤ 1000 * i → zV G (d + 37) mX12_forgivesSet 0 0 15 [(0, .ref m), (1, .int (nI s)), (2, .int (nI (setF (aW lw) vl.2.1 s st.1 i).2)), (3, .int (nI i))] [] (I2, J2, R2, K, n) Q := by
    intro j
    induction j with
    | zero =>
      intro i I2 J2 R2 t2 c2 hi C2 F2 r2 ok hl
      obtain rfl : i = 9 := by omega
      exact wX12_forgivesSet_15 m t2 c2 C2.S_ _ _ _ ⟨fun _ => hQ I2 J2 R2 t2 c2 C2 F2 r2 ok hl, fun h => absurd (by decide) h⟩
    | succ j ih =>
      intro i I2 J2 R2 t2 c2 hi C2 F2 r2 ok hl
      refine wX12_forgivesSet_15 m t2 c2 C2.S_ _ _ _ ⟨fun h => ?_, fun _ => ?_⟩
      · rw [show (9 : Int32) = nI 9 from rfl, tk_le (by omega) (by omega)] at h
        omega
      refine c_has (s := s) (k := i) (by omega) (by omega) ?_
      refine ⟨_, _, rfl, rfl, ?_⟩
      rw [nI_1]
      by_cases hb : s.testBit i = true
      · have e : setF (aW lw) vl.2.1 s st.1 (i + 1) = (pardonT (aW lw) vl.2.1 (setF (aW lw) vl.2.1 s st.1 i).1 i, (setF (aW lw) vl.2.1 s st.1 i).2 + yardsA (aW lw) vl.2.1 (setF (aW lw) vl.2.1 s st.1 i).1 i) := if_pos hb
        have hop : 0 < (setF (aW lw) vl.2.1 s st.1 i).1 (3 * i + 2) := by
          rw [setF_low (by omega) i (by omega)]
          exact ho i (by omega) hb
        have hy := (yardsA_le (Wc := aW lw) (Y := vl.2.1) (T := (setF (aW lw) vl.2.1 s st.1 i).1) (p := i)).2
        have o47 := ok.2.2.2.2.2.2.1
        rw [if_pos hb]
        refine ⟨fun h => absurd h (by decide), fun _ => ?_⟩
        refine c_forgives C2.S_ (Mod_28 C2.S_) (Or.inr rfl) C2.lm_ C2.hld C2.v_.1 C.okv_.1 r2 ok (p := i) (by omega) hop ?_
        intro I3 J3 R3 t3 c3 S3 L3 F3 r3 _
        refine ⟨_, _, _, _, rfl, rfl, _, _, S3, ?_⟩
        obtain ⟨M3, g2, g3⟩ := C2.fmo S3 L3 F3
        have x := ih (i + 1) I3 J3 R3 t3 c3 (by omega) M3 (F2.tr ⟨g2, g3⟩) (by rw [e]; exact r3) (by rw [e]; exact ok.pardon C.okv_.1 (by omega) (by omega) hop) (by rw [e]; show _ + _ ≤ _; omega)
        rw [e] at x
        rw [nI_add]
        exact x
      · have e : setF (aW lw) vl.2.1 s st.1 (i + 1) = setF (aW lw) vl.2.1 s st.1 i := if_neg hb
        rw [if_neg hb]
        refine ⟨fun _ => ?_, fun h => absurd rfl h⟩
        have x := ih (i + 1) I2 J2 R2 t2 c2 (by omega) C2 F2 (by rw [e]; exact r2) (by rw [e]; exact ok.wide (by omega) (by omega)) (by rw [e]; omega)
        rw [e] at x
        rw [show (nI (setF (aW lw) vl.2.1 s st.1 i).2 + 0 : Int32) = nI (setF (aW lw) vl.2.1 s st.1 i).2 from nI_add _ 0]
        exact x
  exact loop 9 0 I1 J R t c (by omega) (C.m14 g1) (MF.z (fun b hb => g1 b (by omega))) r1 C.oks_.1 (Nat.le_refl _)
end
