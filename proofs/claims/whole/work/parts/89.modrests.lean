/-! THE FACE: rests: the model -/
theorem rstN_neg {g : Nat → Bool} {p : Int32} (hp : p < 0) : ∀ {j q k : Nat}, k + j < 1000 → rstN g p j q k = -1
  | 0, _, _, _ => rfl
  | j + 1, q, k, h => by
    rw [rstN, rstN_neg hp (by omega), rstN_neg hp (by omega), if_neg (show ¬ nI k = p from fun e => absurd hp (by rw [← e]; exact nI_pos (by omega)))]
    exact ite_self _
def rwA (g : Nat → Bool) (p : Int32) (j q k : Nat) : Int32 := if p = -1 then nI (cntB g j q k) else rstN g p j q k
section
variable {G : zG} {d : Nat} {I : Nat → Nat → Int32} {J : Nat → Nat → Int64} {R : Nat → Nat → Option Nat} {K : Nat → Nat × Nat} {n : Nat} {m t c : Nat} {tl : Nat → Nat} {tt : Nat → Nat → Nat} {vl : Vt} {st : Stt} {tp : Tpt} {lw : Lwt} {sp : Spt} {ap : Nat} {sg : Sgt} {B : Nat} {p1 p2 p3 : Int32} {Q : Option Value → zH → Prop}
theorem y_rests_n (C : MIv G I J R K n m t c tl tt vl st tp lw sp ap sg B) (hn : ¬ areTwo vl.1 p1 p2) : YL G (d + 3) mX12_rests [.ref m, .int p1, .int p2, .int p3] I J R K n m tl tt (-1) vl st tp lw sp ap sg B := by
  intro Q hQ
  have h6 := C.okv_.1.1
  obtain ⟨M1, f1⟩ := C.z0 (y := 0)
  replace hQ := hQ _ J R t c M1 (fun b hb => ⟨f1 b hb, rfl⟩) (fun _ _ => rfl)
  refine zC.of (by decide) (Nat.le_of_ble_eq_true rfl) ?_
  refine wX12_rests_0 m t c C.S_ _ _ _ ?_
  rintro _ rfl
  exact c_areTwo C.S_ M1.v_.1.1 h6 (fun h2 => absurd h2 hn) (fun _ => ⟨_, _, rfl, rfl, fun _ => hQ, fun h => absurd rfl h⟩)
theorem y_rests_y (C : MIv G I J R K n m t c tl tt vl st tp lw sp ap sg B) {f g : Nat} (hf : f < vl.1) (hg : g < vl.1) (hfg : f ≠ g) (hB : B + 20 < 100000) : YL G (d + 39) mX12_rests [.ref m, .int (nI f), .int (nI g), .int p3] I J R K n m tl tt (restA vl lw st.1 f g p3) vl st tp lw sp ap sg B := by
  intro Q hQ
  have h6 := C.okv_.1.1
  obtain ⟨M1, f1⟩ := C.z0 (y := 0)
  obtain ⟨U, eU⟩ : ∃ y, y = uA vl lw st.1 f g := ⟨_, rfl⟩
  obtain ⟨V, eV⟩ : ∃ y, y = wAy vl lw st.1 f g := ⟨_, rfl⟩
  have eA : restA vl lw st.1 f g p3 = rwA (rstB U V) p3 9 0 0 := by unfold restA rwA; rw [eU, eV]
  rw [eA] at hQ
  have game : ∀ {D : Nat} (e a b : Nat) (I1 : Nat → Nat → Int32) (J1 : Nat → Nat → Int64) (R1 : Nat → Nat → Option Nat) (t1 c1 : Nat) (Q1 : Option Value → zH → Prop), MIv G I1 J1 R1 K n m t1 c1 tl tt vl st tp lw sp ap sg B → a < 3 → b < 3 → e < 2 → (∀ I' J' R' t' c', MIv G I' J' R' K n m t' c' tl tt vl st tp lw sp ap sg B → MF m I1 I' J1 J' R1 R' → Q1 (some (.int (if e = 0 then U a b else V a b))) (I', J', R', K, n)) → zC G (D + 38) mX12_gameOf 0 0 [.ref m, .int (nI f), .int (nI g), .int (nI a), .int (nI b), .int (nI e)] (I1, J1, R1, K, n) Q1 := by
    intro D e a b I1 J1 R1 t1 c1 Q1 C1 ha hb he h
    rw [eU, eV] at h
    exact c_gameOf C1 hf hg hfg ha hb he hB h
  refine zC.of (by decide) (Nat.le_of_ble_eq_true rfl) ?_
  refine wX12_rests_0 m t c C.S_ _ _ _ ?_
  rintro _ rfl
  refine c_areTwo C.S_ M1.v_.1.1 h6 (fun _ => ?_) (fun h => absurd ⟨f, g, hf, hg, hfg, rfl, rfl⟩ h)
  refine ⟨_, _, rfl, rfl, fun h => absurd h (by decide), fun _ => ⟨fun hl => ?_, fun hl => ?_⟩⟩
  case refine_2 =>
    have hn : p3.toInt < -1 := by
      rw [Int32.le_iff_toInt_le] at hl
      have : (-1 : Int32).toInt = -1 := rfl
      omega
    have hne : ¬ p3 = -1 := fun e => by rw [e] at hn; exact absurd hn (by decide)
    refine qI ?_ (hQ _ J R t c M1 (fun b hb => ⟨f1 b hb, rfl⟩) (fun _ _ => rfl))
    unfold rwA
    rw [if_neg hne, rstN_neg (by rw [Int32.lt_iff_toInt_lt]; have : (0 : Int32).toInt = 0 := rfl; omega) (by omega)]
  have outer : ∀ (j q k : Nat) (I1 : Nat → Nat → Int32) (J1 : Nat → Nat → Int64) (R1 : Nat → Nat → Option Nat) (t1 c1 : Nat), q + j = 9 → k ≤ q → MIv G I1 J1 R1 K n m t1 c1 tl tt vl st tp lw sp ap sg B → MF m I I1 J J1 R R1 → rwA (rstB U V) p3 j q k = rwA (rstB U V) p3 9 0 0 → (q < 9 → zV G (d + 39) mX12_rests 0 0 36 [(0, .ref m), (1, .int (nI f)), (2, .int (nI g)), (3, .int p3), (4, .int (nI k)), (5, .int (nI (q / 3))), (6, .int (nI (q % 3)))] [] (I1, J1, R1, K, n) Q) ∧ (q = 9 → zV G (d + 39) mX12_rests 0 0 27 [(0, .ref m), (1, .int (nI f)), (2, .int (nI g)), (3, .int p3), (4, .int (nI k)), (5, .int (nI 3))] [] (I1, J1, R1, K, n) Q) := by
    intro j
    induction j with
    | zero =>
      intro q k I1 J1 R1 t1 c1 hq hk C1 F1 e
      refine ⟨fun h => absurd h (by omega), fun _ => ?_⟩
      refine wX12_rests_27 m t1 c1 C1.S_ _ _ _ _ _ ⟨fun _ => ?_, fun h => absurd (by decide) h⟩
      exact qI e.symm (hQ I1 J1 R1 t1 c1 C1 F1.1 F1.2)
    | succ j ih =>
      intro q k I1 J1 R1 t1 c1 hq hk C1 F1 e
      refine ⟨fun _ => ?_, fun h => absurd h (by omega)⟩
      have nxt : ∀ (k3 : Nat) (I3 : Nat → Nat → Int32) (J3 : Nat → Nat → Int64) (R3 : Nat → Nat → Option Nat) (t3 c3 : Nat), k3 ≤ q + 1 → MIv G I3 J3 R3 K n m t3 c3 tl tt vl st tp lw sp ap sg B → MF m I I3 J J3 R R3 → rwA (rstB U V) p3 j (q + 1) k3 = rwA (rstB U V) p3 9 0 0 → zV G (d + 39) mX12_rests 0 0 36 [(0, .ref m), (1, .int (nI f)), (2, .int (nI g)), (3, .int p3), (4, .int (nI k3)), (5, .int (nI (q / 3))), (6, .int (nI (q % 3 + 1)))] [] (I3, J3, R3, K, n) Q := by
        intro k3 I3 J3 R3 t3 c3 a1 C3 F3 e3
        obtain ⟨n1, n2⟩ := ih (q + 1) k3 I3 J3 R3 t3 c3 (by omega) a1 C3 F3 e3
        by_cases hm : q % 3 = 2
        · refine wX12_rests_36 m t3 c3 C3.S_ _ _ _ _ _ _ ⟨fun _ => ?_, fun h => absurd ((tk_lt (a := 2) (by omega) (by omega)).mpr (by omega)) h⟩
          rw [nI_1]
          by_cases h9 : q + 1 = 9
          · have := n2 h9
            rw [show q / 3 + 1 = 3 by omega]
            exact this
          · have := n1 (by omega)
            rw [show (q + 1) / 3 = q / 3 + 1 by omega, show (q + 1) % 3 = 0 by omega] at this
            refine wX12_rests_27 m t3 c3 C3.S_ _ _ _ _ _ ⟨fun h => ?_, fun _ => this⟩
            rw [show (2 : Int32) = nI 2 from rfl, tk_lt (by omega) (by omega)] at h
            omega
        · have := n1 (by omega)
          rw [show (q + 1) / 3 = q / 3 by omega, show (q + 1) % 3 = q % 3 + 1 by omega] at this
          exact this
      refine wX12_rests_36 m t1 c1 C1.S_ _ _ _ _ _ _ ⟨fun h => ?_, fun _ => ?_⟩
      · rw [show (2 : Int32) = nI 2 from rfl, tk_lt (by omega) (by omega)] at h
        omega
      have inner : ∀ (y i : Nat) (al : Bool) (I2 : Nat → Nat → Int32) (J2 : Nat → Nat → Int64) (R2 : Nat → Nat → Option Nat) (t2 c2 : Nat), i + y = 3 → MIv G I2 J2 R2 K n m t2 c2 tl tt vl st tp lw sp ap sg B → MF m I I2 J J2 R R2 → rstB U V q = (al && rsA U V (q / 3) (q % 3) y i) → zV G (d + 39) mX12_rests 0 0 48 [(0, .ref m), (1, .int (nI f)), (2, .int (nI g)), (3, .int p3), (4, .int (nI k)), (5, .int (nI (q / 3))), (6, .int (nI (q % 3))), (7, .int (if al = true then 1 else 0)), (8, .int (nI i))] [] (I2, J2, R2, K, n) Q := by
        intro y
        induction y with
        | zero =>
          intro i al I2 J2 R2 t2 c2 hi C2 F2 er
          obtain rfl : i = 3 := by omega
          rw [rsA, Bool.and_true] at er
          unfold rwA at e
          replace e : (if p3 = -1 then nI (cntB (rstB U V) j (q + 1) (if rstB U V q = true then k + 1 else k)) else (if rstB U V q = true then (if nI k = p3 then nI (10 * (q / 3) + q % 3) else rstN (rstB U V) p3 j (q + 1) (k + 1)) else rstN (rstB U V) p3 j (q + 1) k)) = rwA (rstB U V) p3 9 0 0 := e
          refine wX12_rests_48 m t2 c2 C2.S_ _ _ _ _ _ _ _ _ ⟨fun _ => ?_, fun h => absurd (by decide) h⟩
          rw [nI_1, nI_1]
          cases al with
          | false =>
            have hr : ¬ rstB U V q = true := by rw [er]; decide
            rw [if_neg hr, if_neg hr] at e
            exact ⟨fun _ => nxt k I2 J2 R2 t2 c2 (by omega) C2 F2 e, fun h => absurd rfl h⟩
          | true =>
            rw [if_pos er, if_pos er] at e
            refine ⟨fun h => absurd h (by decide), fun _ => ⟨fun h => ?_, fun h => ?_⟩⟩
            · have hne : ¬ p3 = -1 := fun e2 => (tk_m1 (by omega)).mp (h.trans e2)
              rw [if_neg hne, if_pos h] at e
              rw [show (10 * nI (q / 3) + nI (q % 3) : Int32) = nI (10 * (q / 3) + q % 3) by rw [show (10 : Int32) = nI 10 from rfl, pk_mul, nI_add]]
              exact qI e.symm (hQ I2 J2 R2 t2 c2 C2 F2.1 F2.2)
            · rw [if_neg h] at e
              exact nxt (k + 1) I2 J2 R2 t2 c2 (by omega) C2 F2 e
        | succ y ihy =>
          intro i al I2 J2 R2 t2 c2 hi C2 F2 er
          refine wX12_rests_48 m t2 c2 C2.S_ _ _ _ _ _ _ _ _ ⟨fun h => ?_, fun _ => ?_⟩
          · rw [show (2 : Int32) = nI 2 from rfl, tk_lt (by omega) (by omega)] at h
            omega
          rw [nI_1]
          cases al with
          | false =>
            rw [Bool.false_and] at er
            exact ⟨fun _ => ihy (i + 1) false I2 J2 R2 t2 c2 (by omega) C2 F2 (by rw [Bool.false_and]; exact er), fun h => absurd rfl h⟩
          | true =>
            rw [Bool.true_and, rsA] at er
            refine ⟨fun h => absurd h (by decide), fun _ => ?_⟩
            refine game 0 i (q % 3) I2 J2 R2 t2 c2 _ C2 (by omega) (by omega) (by omega) ?_
            intro I3 J3 R3 t3 c3 C3 F3
            refine ⟨_, _, _, _, rfl, rfl, _, _, C3.S_, ?_⟩
            refine game 0 (q / 3) (q % 3) I3 J3 R3 t3 c3 _ C3 (by omega) (by omega) (by omega) ?_
            intro I4 J4 R4 t4 c4 C4 F4
            refine ⟨_, _, _, _, rfl, rfl, _, _, C4.S_, ?_⟩
            rw [if_pos rfl, if_pos rfl]
            refine ⟨fun h => ?_, fun h => ?_⟩
            · rw [if_pos h] at er
              exact ihy (i + 1) false I4 J4 R4 t4 c4 (by omega) C4 ((F2.tr F3).tr F4) (by rw [Bool.false_and]; exact er)
            · rw [if_neg h] at er
              refine game 1 (q / 3) i I4 J4 R4 t4 c4 _ C4 (by omega) (by omega) (by omega) ?_
              intro I5 J5 R5 t5 c5 C5 F5
              refine ⟨_, _, _, _, rfl, rfl, _, _, C5.S_, ?_⟩
              refine game 1 (q / 3) (q % 3) I5 J5 R5 t5 c5 _ C5 (by omega) (by omega) (by omega) ?_
              intro I6 J6 R6 t6 c6 C6 F6
              refine ⟨_, _, _, _, rfl, rfl, _, _, C6.S_, ?_⟩
              rw [if_neg (show ¬ (1 : Nat) = 0 by omega), if_neg (show ¬ (1 : Nat) = 0 by omega)]
              have Fz := (((F2.tr F3).tr F4).tr F5).tr F6
              by_cases h2 : V (q / 3) i ≤ V (q / 3) (q % 3)
              · rw [if_pos h2] at er
                rw [if_neg (Int32.not_lt.mpr h2)]
                exact ihy (i + 1) true I6 J6 R6 t6 c6 (by omega) C6 Fz (by rw [Bool.true_and]; exact er)
              · rw [if_neg h2] at er
                rw [if_pos (Int32.not_le.mp h2)]
                exact ihy (i + 1) false I6 J6 R6 t6 c6 (by omega) C6 Fz (by rw [Bool.false_and]; exact er)
      exact inner 3 0 true I1 J1 R1 t1 c1 (by omega) C1 F1 (by rw [Bool.true_and]; rfl)
  have := (outer 9 0 0 _ J R t c (by omega) (by omega) M1 (MF.z f1) rfl).1 (by omega)
  exact wX12_rests_27 m t c M1.S_ _ _ _ _ _ ⟨fun h => absurd h (by decide), fun _ => this⟩
end
