/-! THE FACE: weights, ask: the model -/
/-- nothing but the model's own has changed -/
def MF (m : Nat) (I I' : Nat → Nat → Int32) (J J' : Nat → Nat → Int64) (R R' : Nat → Nat → Option Nat) : Prop := (∀ b, b < m ∨ m + 21 ≤ b → I' b = I b ∧ J' b = J b) ∧ (∀ b, b ≠ m → R' b = R b)
theorem MF.rf {m : Nat} {I : Nat → Nat → Int32} {J : Nat → Nat → Int64} {R : Nat → Nat → Option Nat} : MF m I I J J R R := ⟨fun _ _ => ⟨rfl, rfl⟩, fun _ _ => rfl⟩
theorem MF.tr {m : Nat} {I I' I'' : Nat → Nat → Int32} {J J' J'' : Nat → Nat → Int64} {R R' R'' : Nat → Nat → Option Nat} (h : MF m I I' J J' R R') (h' : MF m I' I'' J' J'' R' R'') : MF m I I'' J J'' R R'' := ⟨fun b hb => ⟨(h'.1 b hb).1.trans (h.1 b hb).1, (h'.1 b hb).2.trans (h.1 b hb).2⟩, fun b hb => (h'.2 b hb).trans (h.2 b hb)⟩
theorem MF.z {m : Nat} {I I' : Nat → Nat → Int32} {J : Nat → Nat → Int64} {R : Nat → Nat → Option Nat} (h : ∀ b, b < m ∨ m + 21 ≤ b → I' b = I b) : MF m I I' J J R R := ⟨fun b hb => ⟨h b hb, rfl⟩, fun _ _ => rfl⟩
section
variable {G : zG} {d : Nat} {I : Nat → Nat → Int32} {J : Nat → Nat → Int64} {R : Nat → Nat → Option Nat} {K : Nat → Nat × Nat} {n : Nat} {x m v w q nx lo M t c : Nat} {lk sq : Nat → Nat} {tl : Nat → Nat} {tt : Nat → Nat → Nat} {vl : Vt} {st : Stt} {tp : Tpt} {lw : Lwt} {sp : Spt} {ap : Nat} {sg : Sgt} {B B' : Nat} {p2 : Int32} {T : Nat → Nat} {Q : Option Value → zH → Prop}
theorem c_tell (C : MIv G I J R K n m t c tl tt vl st tp lw sp ap sg B) {p y : Nat} (hp : p < vl.2.2.1) (h1 : 1 ≤ y) (h9 : y ≤ 9) (hQ : ∀ I' J' R' t' c', MIv G I' J' R' K n m t' c' tl tt vl st tp lw sp ap sg B → MF m I I' J J' R R' → Q (some (.int (nI (tellA vl lw p y)))) (I', J', R', K, n)) : zC G (d + 35) mX12_yardsTold 0 0 [.ref m, .int (nI p), .int (nI y)] (I, J, R, K, n) Q := by
  have hnw := C.okv_.2.1
  have h6 := C.okv_.1.1
  obtain ⟨a1, a2, a3, a4, a5⟩ := C.okv_.2.2.2.2 p hp
  have hy := C.okv_.1.2 _ a2
  have e9 : I (m + 9) (3 * p + 1) = nI (vl.2.2.2.1 (3 * p + 1)) := C.v_.2.2.1 _ (by omega)
  have e7 : I (m + 7) (2 * vl.2.2.2.1 (3 * p + 1)) = nI (vl.2.1 (2 * vl.2.2.2.1 (3 * p + 1))) := (C.v_.1.2 _ a2).1
  refine zC.of (by decide) (Nat.le_of_ble_eq_true rfl) ?_
  refine wX12_yardsTold_0 m t c C.S_ _ _ ?_
  rw [show (3 * nI p + 1 : Int32) = nI (3 * p + 1) by rw [show (3 : Int32) = nI 3 from rfl, pk_mul, nI_1], tk_c (by omega), e9, show (2 * nI (vl.2.2.2.1 (3 * p + 1)) : Int32) = nI (2 * vl.2.2.2.1 (3 * p + 1)) by rw [show (2 : Int32) = nI 2 from rfl, pk_mul], tk_c (by omega), e7, show (0 : Int32).toNatClampNeg = 0 from rfl, C.v_.2.2.2.1]
  refine ⟨(tk_in (by omega) (by omega)).mpr (by omega), (tk_in (by omega) (by omega)).mpr (by omega), (tk_in (n := 0) (by omega) (by omega)).mpr (by omega), ?_⟩
  refine c_yardsBy (mn := 0) (dd := 0) C.S_ C.lm_ C.hld C.v_.1 C.okv_.1 a2 h1 ⟨by omega, by omega, by omega, by omega, by have := C.okv_.2.2.1; omega, by omega⟩ ?_
  intro I' J' R' t' c' S' L' F
  obtain ⟨e1, e2, e3⟩ := C.fmo S' L' (F.wide (fun b h => absurd h not_false))
  exact ⟨_, _, _, _, rfl, rfl, _, _, S', hQ I' J' R' t' c' e1 ⟨e2, e3⟩⟩
theorem c_isWeight (C : MIv G I J R K n m t c tl tt vl st tp lw sp ap sg B) {p y : Nat} (hp : p < vl.2.2.1) (h1 : 1 ≤ y) (h9 : y ≤ 9) (hQ : ∀ I' J' R' t' c', MIv G I' J' R' K n m t' c' tl tt vl st tp lw sp ap sg B → MF m I I' J J' R R' → Q (some (.int (if fitA vl lw sg p y = true then 1 else 0))) (I', J', R', K, n)) : zC G (d + 36) mX12_isWeight 0 0 [.ref m, .int (nI p), .int (nI y)] (I, J, R, K, n) Q := by
  have hnw := C.okv_.2.1
  have tle := tell_le (lw := lw) (y := y) C.okv_ hp
  have ef : fitA vl lw sg p y = agrA sg p (tellA vl lw p y) sg.1 0 := by
    unfold fitA
    rw [decide_eq_true h1, Bool.true_and]
  refine zC.of (by decide) (Nat.le_of_ble_eq_true rfl) ?_
  refine wX12_isWeight_0 m t c C.S_ _ _ ?_
  have loop : ∀ (j i : Nat) (I1 : Nat → Nat → Int32) (J1 : Nat → Nat → Int64) (R1 : Nat → Nat → Option Nat) (t1 c1 : Nat), i + j = sg.1 → MIv G I1 J1 R1 K n m t1 c1 tl tt vl st tp lw sp ap sg B → MF m I I1 J J1 R R1 → agrA sg p (tellA vl lw p y) j i = fitA vl lw sg p y → zV G (d + 36) mX12_isWeight 0 0 2 [(0, .ref m), (1, .int (nI p)), (2, .int (nI y)), (3, .int (nI i))] [] (I1, J1, R1, K, n) Q := by
    intro j
    induction j with
    | zero =>
      intro i I1 J1 R1 t1 c1 hi C1 F1 he
      have g1 := C1.g_.1
      refine wX12_isWeight_2 m t1 c1 C1.S_ _ _ _ ⟨fun _ => ?_, fun h => absurd ?_ h⟩
      · refine qI ?_ (hQ I1 J1 R1 t1 c1 C1 F1)
        rw [← he]; rfl
      · rw [C1.g_.2.1, tk_le (by omega) (by omega)]
        omega
    | succ j ih =>
      intro i I1 J1 R1 t1 c1 hi C1 F1 he
      obtain ⟨g1, g2, g3, g4⟩ := C1.g_
      obtain ⟨a4, a5, a6⟩ := g4 i (by omega)
      rw [agrA] at he
      have e3 : (3 * nI i : Int32) = nI (3 * i) := by rw [show (3 : Int32) = nI 3 from rfl, pk_mul]
      refine wX12_isWeight_2 m t1 c1 C1.S_ _ _ _ ⟨fun h => ?_, fun _ => ?_⟩
      · rw [g2, tk_le (by omega) (by omega)] at h
        omega
      rw [e3, tk_c (by omega), g3 _ (by omega), tk_eq (by omega) (by omega), nI_1, nI_1]
      refine ⟨(tk_in (by omega) (by omega)).mpr (by omega), fun h => ?_, fun h => ?_⟩
      · rw [if_pos h] at he
        refine c_tell C1 hp h1 h9 ?_
        intro I2 J2 R2 t2 c2 C2 F2
        refine ⟨_, _, _, _, rfl, rfl, _, _, C2.S_, (tk_in (by omega) (by omega)).mpr (by omega), ?_⟩
        rw [show (nI (3 * i) + 2 : Int32) = nI (3 * i + 2) from nI_add .., tk_c (by omega), tk_c (by omega), C2.g_.2.2.1 _ (by omega), C2.g_.2.2.1 _ (by omega)]
        refine ⟨(tk_in (by omega) (by omega)).mpr (by omega), ?_⟩
        have key : ((if nI (tellA vl lw p y) < nI (sg.2 (3 * i + 1)) then (0 : Int32) else 1) = (if nI (sg.2 (3 * i + 2)) = 1 then 1 else 0)) ↔ (tellA vl lw p y < sg.2 (3 * i + 1) ↔ sg.2 (3 * i + 2) = 0) := by
          have hc : sg.2 (3 * i + 2) = 0 ∨ sg.2 (3 * i + 2) = 1 := by omega
          by_cases h1 : tellA vl lw p y < sg.2 (3 * i + 1)
          · rw [if_pos ((tk_lt (by omega) (by omega)).mpr h1)]
            rcases hc with e | e
            · rw [e]; exact ⟨fun _ => by omega, fun _ => rfl⟩
            · rw [e]; exact ⟨fun h => absurd h (by decide), fun h => absurd (h.mp h1) (by decide)⟩
          · rw [if_neg (fun h => h1 ((tk_lt (by omega) (by omega)).mp h))]
            rcases hc with e | e
            · rw [e]; exact ⟨fun h => absurd h (by decide), fun h => absurd (h.mpr rfl) h1⟩
            · rw [e]; exact ⟨fun _ => by omega, fun _ => rfl⟩
        rw [key]
        refine ⟨fun h2 => ?_, fun h2 => ?_⟩
        · rw [if_pos h2] at he; exact ih (i + 1) I2 J2 R2 t2 c2 (by omega) C2 (F1.tr F2) he
        · rw [if_neg h2] at he
          refine qI ?_ (hQ I2 J2 R2 t2 c2 C2 (F1.tr F2))
          rw [← he]; rfl
      · rw [if_neg h] at he
        exact ih (i + 1) I1 J1 R1 t1 c1 (by omega) C1 F1 he
  exact loop sg.1 0 I J R t c (by omega) C MF.rf ef.symm
theorem y_weights_n {p : Int32} (C : MIv G I J R K n m t c tl tt vl st tp lw sp ap sg B) (hp : bad vl.2.2.1 p) : YL G (d + 2) mX12_weights [.ref m, .int p, .int p2] I J R K n m tl tt (-1) vl st tp lw sp ap sg B := by
  intro Q hQ
  obtain ⟨M1, f1⟩ := C.z0 (y := 0)
  replace hQ := hQ _ J R t c M1 (fun b hb => ⟨f1 b hb, rfl⟩) (fun _ _ => rfl)
  refine zC.of (by decide) (Nat.le_of_ble_eq_true rfl) ?_
  refine wX12_weights_0 m t c C.S_ _ _ ?_
  rintro _ rfl
  refine c_yt M1 ?_
  refine ⟨_, _, rfl, rfl, ?_⟩
  exact ⟨fun _ => hQ, fun h => absurd (told_n hp) h⟩
theorem y_weights_y (C : MIv G I J R K n m t c tl tt vl st tp lw sp ap sg B) {p : Nat} (hp : p < vl.2.2.1) : YL G (d + 37) mX12_weights [.ref m, .int (nI p), .int p2] I J R K n m tl tt (wtA (fitA vl lw sg p) p2 9 1 0) vl st tp lw sp ap sg B := by
  intro Q hQ
  have hnw := C.okv_.2.1
  obtain ⟨M1, f1⟩ := C.z0 (y := 0)
  refine zC.of (by decide) (Nat.le_of_ble_eq_true rfl) ?_
  refine wX12_weights_0 m t c C.S_ _ _ ?_
  rintro _ rfl
  refine c_yt M1 ?_
  refine ⟨_, _, rfl, rfl, ?_⟩
  rw [told_y (by omega) hp]
  by_cases hl : ¬ (-1 : Int32) ≤ p2
  · refine ⟨fun h => absurd h (by decide), fun _ => ⟨fun h => absurd h hl, fun _ => ?_⟩⟩
    have hn : p2.toInt < -1 := by
      rw [Int32.le_iff_toInt_le] at hl
      have : (-1 : Int32).toInt = -1 := rfl
      omega
    have hne : ¬ p2 = -1 := fun e => by rw [e] at hn; exact absurd hn (by decide)
    refine qI ?_ (hQ _ J R t c M1 (fun b hb => ⟨f1 b hb, rfl⟩) (fun _ _ => rfl))
    unfold wtA
    rw [if_neg hne, nthB_neg (by rw [Int32.lt_iff_toInt_lt]; have : (0 : Int32).toInt = 0 := rfl; omega) (by omega)]
  refine ⟨fun h => absurd h (by decide), fun _ => ⟨fun _ => ?_, fun h => absurd h hl⟩⟩
  have loop : ∀ (j i k : Nat) (I1 : Nat → Nat → Int32) (J1 : Nat → Nat → Int64) (R1 : Nat → Nat → Option Nat) (t1 c1 : Nat), i + j = 10 → 1 ≤ i → k ≤ i → MIv G I1 J1 R1 K n m t1 c1 tl tt vl st tp lw sp ap sg B → MF m I I1 J J1 R R1 → wtA (fitA vl lw sg p) p2 j i k = wtA (fitA vl lw sg p) p2 9 1 0 → zV G (d + 37) mX12_weights 0 0 25 [(0, .ref m), (1, .int (nI p)), (2, .int p2), (3, .int (nI k)), (4, .int (nI i))] [] (I1, J1, R1, K, n) Q := by
    intro j
    induction j with
    | zero =>
      intro i k I1 J1 R1 t1 c1 hi _ hk C1 F1 he
      obtain rfl : i = 10 := by omega
      refine wX12_weights_25 m t1 c1 C1.S_ _ _ _ _ ⟨fun _ => ?_, fun h => absurd (by decide) h⟩
      exact qI he.symm (hQ I1 J1 R1 t1 c1 C1 F1.1 F1.2)
    | succ j ih =>
      intro i k I1 J1 R1 t1 c1 hi h1 hk C1 F1 he
      refine wX12_weights_25 m t1 c1 C1.S_ _ _ _ _ ⟨fun h => ?_, fun _ => ?_⟩
      · rw [show (9 : Int32) = nI 9 from rfl, tk_lt (by omega) (by omega)] at h
        omega
      refine c_isWeight C1 hp h1 (by omega) ?_
      intro I2 J2 R2 t2 c2 C2 F2
      refine ⟨_, _, _, _, rfl, rfl, _, _, C2.S_, ?_⟩
      rw [nI_1, nI_1]
      unfold wtA at he
      rw [cntB, nthB] at he
      by_cases hg : fitA vl lw sg p i = true
      · rw [if_pos hg]
        rw [if_pos hg, if_pos hg] at he
        refine ⟨fun h => absurd h (by decide), fun _ => ⟨fun h => ?_, fun h => ?_⟩⟩
        · have hne : ¬ p2 = -1 := fun e => (tk_m1 (by omega)).mp (h.trans e)
          rw [if_neg hne, if_pos h] at he
          exact qI he.symm (hQ I2 J2 R2 t2 c2 C2 (F1.tr F2).1 (F1.tr F2).2)
        · rw [if_neg h] at he
          exact ih (i + 1) (k + 1) I2 J2 R2 t2 c2 (by omega) (by omega) (by omega) C2 (F1.tr F2) he
      · rw [if_neg hg]
        rw [if_neg hg, if_neg hg] at he
        exact ⟨fun _ => ih (i + 1) k I2 J2 R2 t2 c2 (by omega) (by omega) (by omega) C2 (F1.tr F2) he, fun h => absurd rfl h⟩
  exact loop 9 1 0 _ J R t c (by omega) (by omega) (by omega) M1 (MF.z f1) rfl
theorem y_ask_n {p : Int32} (C : MIv G I J R K n m t c tl tt vl st tp lw sp ap sg B) (hp : bad vl.2.2.1 p) : YL G (d + 2) mX12_ask [.ref m, .int p] I J R K n m tl tt (-1) vl st tp lw sp ap sg B := by
  intro Q hQ
  obtain ⟨M1, f1⟩ := C.z0 (y := 0)
  replace hQ := hQ _ J R t c M1 (fun b hb => ⟨f1 b hb, rfl⟩) (fun _ _ => rfl)
  refine zC.of (by decide) (Nat.le_of_ble_eq_true rfl) ?_
  refine wX12_ask_0 m t c C.S_ _ ?_
  rintro _ rfl
  refine c_yt M1 ?_
  refine ⟨_, _, rfl, rfl, ?_⟩
  exact ⟨fun _ => hQ, fun h => absurd (told_n hp) h⟩
theorem y_ask_y (C : MIv G I J R K n m t c tl tt vl st tp lw sp ap sg B) {p : Nat} (hp : p < vl.2.2.1) : YL G (d + 37) mX12_ask [.ref m, .int (nI p)] I J R K n m tl tt (askA vl lw sg p) vl st tp lw sp ap sg B := by
  intro Q hQ
  have hnw := C.okv_.2.1
  obtain ⟨M1, f1⟩ := C.z0 (y := 0)
  refine zC.of (by decide) (Nat.le_of_ble_eq_true rfl) ?_
  refine wX12_ask_0 m t c C.S_ _ ?_
  rintro _ rfl
  refine c_yt M1 ?_
  refine ⟨_, _, rfl, rfl, ?_⟩
  rw [told_y (by omega) hp]
  refine ⟨fun h => absurd h (by decide), fun _ => ?_⟩
  have inner : ∀ (j i k : Nat) (l2 l3 : Int32) (I1 : Nat → Nat → Int32) (J1 : Nat → Nat → Int64) (R1 : Nat → Nat → Option Nat) (t1 c1 : Nat), i + j = 10 → 1 ≤ i → k ≤ 40 → MIv G I1 J1 R1 K n m t1 c1 tl tt vl st tp lw sp ap sg B → MF m I I1 J J1 R R1 →
      (∀ I2 J2 R2 t2 c2, MIv G I2 J2 R2 K n m t2 c2 tl tt vl st tp lw sp ap sg B → MF m I I2 J J2 R R2 →
        (bitsA (fitA vl lw sg p) 10 = 0 → Q (some (.int (-1))) (I2, J2, R2, K, n)) ∧ (¬ bitsA (fitA vl lw sg p) 10 = 0 → ((l2 = -1 ∨ absI (sideA (fitA vl lw sg p) (tellA vl lw p) k 10) < l3) → zV G (d + 37) mX12_ask 0 0 22 [(0, .ref m), (1, .int (nI p)), (2, .int (nI k)), (3, .int (absI (sideA (fitA vl lw sg p) (tellA vl lw p) k 10))), (4, .int (nI (k + 1)))] [] (I2, J2, R2, K, n) Q) ∧ (¬ l2 = -1 → ¬ absI (sideA (fitA vl lw sg p) (tellA vl lw p) k 10) < l3 → zV G (d + 37) mX12_ask 0 0 22 [(0, .ref m), (1, .int (nI p)), (2, .int l2), (3, .int l3), (4, .int (nI (k + 1)))] [] (I2, J2, R2, K, n) Q))) →
      zV G (d + 37) mX12_ask 0 0 38 [(0, .ref m), (1, .int (nI p)), (2, .int l2), (3, .int l3), (4, .int (nI k)), (5, .int (sideA (fitA vl lw sg p) (tellA vl lw p) k i)), (6, .int (if bitsA (fitA vl lw sg p) i = 0 then 0 else 1)), (7, .int (nI i))] [] (I1, J1, R1, K, n) Q := by
    intro j
    induction j with
    | zero =>
      intro i k l2 l3 I1 J1 R1 t1 c1 hi _ hk C1 F1 he
      obtain rfl : i = 10 := by omega
      obtain ⟨e1, e2⟩ := he I1 J1 R1 t1 c1 C1 F1
      refine wX12_ask_38 m t1 c1 C1.S_ _ _ _ _ _ _ _ ⟨fun _ => ⟨fun h => ?_, fun h => ?_⟩, fun h => absurd (by decide) h⟩
      · refine e1 (Classical.byContradiction fun h2 => ?_)
        rw [if_neg h2] at h
        exact absurd h (by decide)
      · obtain ⟨e3, e4⟩ := e2 (fun h2 => h (by rw [if_pos h2]))
        rw [nI_1]
        exact ⟨fun h => e3 (Or.inl h), fun h => ⟨fun h2 => e3 (Or.inr h2), fun h2 => e4 h h2⟩⟩
    | succ j ih =>
      intro i k l2 l3 I1 J1 R1 t1 c1 hi h1 hk C1 F1 he
      refine wX12_ask_38 m t1 c1 C1.S_ _ _ _ _ _ _ _ ⟨fun h => ?_, fun _ => ?_⟩
      · rw [show (9 : Int32) = nI 9 from rfl, tk_lt (by omega) (by omega)] at h
        omega
      refine c_isWeight C1 hp h1 (by omega) ?_
      intro I2 J2 R2 t2 c2 C2 F2
      refine ⟨_, _, _, _, rfl, rfl, _, _, C2.S_, ?_⟩
      rw [nI_1]
      by_cases hg : fitA vl lw sg p i = true
      · rw [if_pos hg]
        refine ⟨fun h => absurd h (by decide), fun _ => ?_⟩
        refine c_tell C2 hp h1 (by omega) ?_
        intro I3 J3 R3 t3 c3 C3 F3
        refine ⟨_, _, _, _, rfl, rfl, _, _, C3.S_, ?_⟩
        have e := ih (i + 1) k l2 l3 I3 J3 R3 t3 c3 (by omega) (by omega) hk C3 ((F1.tr F2).tr F3) he
        have hn : ¬ bitsA (fitA vl lw sg p) (i + 1) = 0 := fun h0 => by
          have := bitsA_bit (fitA vl lw sg p) (i + 1) i
          rw [h0, Nat.zero_testBit, hg, decide_eq_true (by omega)] at this
          exact absurd this (by decide)
        rw [sideA, if_pos hg, if_neg hn] at e
        exact e
      · rw [if_neg hg]
        refine ⟨fun _ => ?_, fun h => absurd rfl h⟩
        have e := ih (i + 1) k l2 l3 I2 J2 R2 t2 c2 (by omega) (by omega) hk C2 (F1.tr F2) he
        rw [sideA, if_neg hg, ← bitsA_or (x := 0) (fun h => absurd h hg) (fun _ => rfl), Nat.or_zero] at e
        exact e
  have b1 : bitsA (fitA vl lw sg p) 1 = 0 := (bitsA_or (P := fitA vl lw sg p) (k := 0) (x := 0) (fun h => absurd h (by rw [fit0]; decide)) (fun _ => rfl)).symm.trans (Nat.or_zero _)
  have s1 : ∀ k, sideA (fitA vl lw sg p) (tellA vl lw p) k 1 = 0 := fun k => by rw [sideA, if_neg (by rw [fit0]; decide)]; rfl
  have outer : ∀ (j k : Nat) (I1 : Nat → Nat → Int32) (J1 : Nat → Nat → Int64) (R1 : Nat → Nat → Option Nat) (t1 c1 : Nat), k + j = 40 → ¬ bitsA (fitA vl lw sg p) 10 = 0 → MIv G I1 J1 R1 K n m t1 c1 tl tt vl st tp lw sp ap sg B → MF m I I1 J J1 R R1 → zV G (d + 37) mX12_ask 0 0 22 [(0, .ref m), (1, .int (nI p)), (2, .int (nI (markA (fun k => absI (sideA (fitA vl lw sg p) (tellA vl lw p) k 10)) k).1)), (3, .int (markA (fun k => absI (sideA (fitA vl lw sg p) (tellA vl lw p) k 10)) k).2), (4, .int (nI (k + 1)))] [] (I1, J1, R1, K, n) Q := by
    intro j
    induction j with
    | zero =>
      intro k I1 J1 R1 t1 c1 hk hne C1 F1
      obtain rfl : k = 40 := by omega
      refine wX12_ask_22 m t1 c1 C1.S_ _ _ _ _ ⟨fun _ => ?_, fun h => absurd (by decide) h⟩
      refine qI ?_ (hQ I1 J1 R1 t1 c1 C1 F1.1 F1.2)
      unfold askA
      rw [if_neg hne]
    | succ j ih =>
      intro k I1 J1 R1 t1 c1 hk hne C1 F1
      have hm := markA_le (ab := fun k => absI (sideA (fitA vl lw sg p) (tellA vl lw p) k 10)) k
      refine wX12_ask_22 m t1 c1 C1.S_ _ _ _ _ ⟨fun h => ?_, fun _ => ?_⟩
      · rw [show (40 : Int32) = nI 40 from rfl, tk_lt (by omega) (by omega)] at h
        omega
      have e := inner 9 1 (k + 1) (nI (markA (fun k => absI (sideA (fitA vl lw sg p) (tellA vl lw p) k 10)) k).1) (markA (fun k => absI (sideA (fitA vl lw sg p) (tellA vl lw p) k 10)) k).2 I1 J1 R1 t1 c1 (by omega) (by omega) (by omega) C1 F1 (fun I2 J2 R2 t2 c2 C2 F2 => ⟨fun h => absurd h hne, fun _ => ?_⟩)
      · rw [b1, if_pos rfl, s1] at e
        exact e
      · have e := ih (k + 1) I2 J2 R2 t2 c2 (by omega) hne C2 F2
        rw [markA] at e
        refine ⟨fun h => ?_, fun _ h => ?_⟩
        · have h2 := h.resolve_left (fun h => (tk_m1 (by omega)).mp h)
          rw [if_neg (Int32.not_le.mpr h2)] at e
          exact e
        · rw [if_pos (Int32.not_lt.mp h)] at e
          exact e
  refine wX12_ask_22 m t c M1.S_ _ _ _ _ ⟨fun h => absurd h (by decide), fun _ => ?_⟩
  have e := inner 9 1 0 (-1) 0 _ J R t c (by omega) (by omega) (by omega) M1 (MF.z f1) (fun I2 J2 R2 t2 c2 C2 F2 => ⟨fun h => ?_, fun h => ⟨fun _ => outer 40 0 I2 J2 R2 t2 c2 (by omega) h C2 F2, fun h => absurd rfl h⟩⟩)
  · rw [b1, if_pos rfl, s1] at e
    exact e
  · refine qI ?_ (hQ I2 J2 R2 t2 c2 C2 F2.1 F2.2)
    unfold askA
    rw [if_pos h]
end
