/-! THE FACE: feed -/
def shI (j : Nat) : Int32 := if j = 0 then -8 else nI (8 * (j - 1))
theorem sh_next : ∀ j : Nat, j < 4 → nI (8 * j) + (-8) = shI j := by decide +kernel
theorem sh_s (j : Nat) : shI (j + 1) = nI (8 * j) := rfl
def nzB (p : Int32) : Nat → Nat
  | 0 => 0
  | j + 1 => nzB p j + (if bt p j = 0 then 0 else 1)
theorem nzB_le (p : Int32) : ∀ j, nzB p j ≤ j
  | 0 => Nat.le_refl _
  | j + 1 => by
    have := nzB_le p j
    rw [nzB]
    split <;> omega
def addB (p : Int32) : Nat → Tpt → Tpt
  | 0, tp => tp
  | j + 1, tp => addB p j (if bt p j = 0 then tp else (tp.1 + 1, up tp.2 tp.1 (bt p j)))
theorem addB_len (p : Int32) : ∀ j tp, (addB p j tp).1 = tp.1 + nzB p j
  | 0, _ => rfl
  | j + 1, tp => by
    rw [addB, addB_len, nzB]
    split
    · omega
    · show tp.1 + 1 + _ = _; omega
section
variable {G : zG} {d : Nat} {I : Nat → Nat → Int32} {J : Nat → Nat → Int64} {R : Nat → Nat → Option Nat} {K : Nat → Nat × Nat} {n : Nat} {x m v w q nx lo M t c : Nat} {lk sq : Nat → Nat} {tl : Nat → Nat} {tt : Nat → Nat → Nat} {vl : Vt} {st : Stt} {tp : Tpt} {lw : Lwt} {sp : Spt} {ap : Nat} {sg : Sgt} {B B' : Nat} {p p1 p2 p3 p4 p5 : Int32} {Q : Option Value → zH → Prop}
theorem c_bytesIn (hQ : Q (some (.int (nI (nzB p 4)))) (I, J, R, K, n)) : zC G (d + 1) mX9_bytesIn 0 0 [.int p] (I, J, R, K, n) Q := by
  refine zC.of (by decide) (Nat.le_of_ble_eq_true rfl) ?_
  refine wX9_bytesIn_0 _ ?_
  have loop : ∀ j k : Nat, j ≤ 4 → Q (some (.int (nI (k + nzB p j)))) (I, J, R, K, n) → zV G (d + 1) mX9_bytesIn 0 0 5 [(0, .int p), (1, .int (nI k)), (2, .int (shI j))] [] (I, J, R, K, n) Q := by
    intro j
    induction j with
    | zero =>
      intro k _ hq
      exact wX9_bytesIn_5 _ _ _ ⟨fun _ => hq, fun h => absurd (by decide) h⟩
    | succ j ih =>
      intro k hj hq
      rw [nzB] at hq
      rw [sh_s]
      refine wX9_bytesIn_5 _ _ _ ⟨fun h => absurd h (nI_pos (by omega)), fun _ => ?_⟩
      have hl := bt_lt (p := p) (j := j)
      rw [bt_x p (by omega), sh_next j (by omega), nI_1, show (0 : Int32) = nI 0 from rfl, tk_eq (by omega) (by omega)]
      refine ⟨fun h => ?_, fun h => ?_⟩
      · rw [if_pos h] at hq
        exact ih k (by omega) hq
      · rw [if_neg h] at hq
        exact ih (k + 1) (by omega) (by rw [show k + 1 + nzB p j = k + (nzB p j + 1) by omega]; exact hq)
  exact loop 4 0 (by omega) (by rw [Nat.zero_add]; exact hQ)
theorem c_mbytesIn (hQ : Q (some (.int (nI (nzB p 4)))) (I, J, R, K, n)) : zC G (d + 1) mX12_bytesIn 0 0 [.int p] (I, J, R, K, n) Q := by
  refine zC.of (by decide) (Nat.le_of_ble_eq_true rfl) ?_
  refine wX12_bytesIn_0 _ ?_
  have loop : ∀ j k : Nat, j ≤ 4 → Q (some (.int (nI (k + nzB p j)))) (I, J, R, K, n) → zV G (d + 1) mX12_bytesIn 0 0 5 [(0, .int p), (1, .int (nI k)), (2, .int (shI j))] [] (I, J, R, K, n) Q := by
    intro j
    induction j with
    | zero =>
      intro k _ hq
      exact wX12_bytesIn_5 _ _ _ ⟨fun _ => hq, fun h => absurd (by decide) h⟩
    | succ j ih =>
      intro k hj hq
      rw [nzB] at hq
      rw [sh_s]
      refine wX12_bytesIn_5 _ _ _ ⟨fun h => absurd h (nI_pos (by omega)), fun _ => ?_⟩
      have hl := bt_lt (p := p) (j := j)
      rw [bt_y p (by omega), sh_next j (by omega)]
      by_cases h : bt p j = 0
      · rw [if_pos h] at hq
        rw [h, if_pos (show nI 0 = (0 : Int32) from rfl), show (nI k + 0 : Int32) = nI k from nI_add k 0]
        exact ih k (by omega) hq
      · rw [if_neg h] at hq
        rw [if_neg (show ¬ nI (bt p j) = (0 : Int32) from fun h2 => h ((tk_eq (b := 0) (by omega) (by omega)).mp h2)), nI_1]
        exact ih (k + 1) (by omega) (by rw [show k + 1 + nzB p j = k + (nzB p j + 1) by omega]; exact hq)
  exact loop 4 0 (by omega) (by rw [Nat.zero_add]; exact hQ)
theorem c_append {ta : Nat} (S : hTape G R K n ta) (V : TP I ta tp.1 tp.2) (h : tp.1 + nzB p 4 ≤ 240) (hQ : ∀ I', TP I' ta (addB p 4 tp).1 (addB p 4 tp).2 → (∀ b k, ¬ (b = ta ∧ k = 1) → b ≠ ta + 1 → I' b k = I b k) → Q none (I', J, R, K, n)) : zC G (d + 1) mX9_append 0 0 [.ref ta, .int p] (I, J, R, K, n) Q := by
  refine zC.of (by decide) (Nat.le_of_ble_eq_true rfl) ?_
  refine wX9_append_0 ta S _ ?_
  have loop : ∀ (j : Nat) (I1 : Nat → Nat → Int32) (tp1 : Tpt), j ≤ 4 → TP I1 ta tp1.1 tp1.2 → tp1.1 + nzB p j ≤ 240 → (∀ b k, ¬ (b = ta ∧ k = 1) → b ≠ ta + 1 → I1 b k = I b k) → addB p j tp1 = addB p 4 tp → zV G (d + 1) mX9_append 0 0 3 [(0, .ref ta), (1, .int p), (2, .int (shI j))] [] (I1, J, R, K, n) Q := by
    intro j
    induction j with
    | zero =>
      intro I1 tp1 _ V1 h1 f1 e
      rw [addB] at e
      rw [e] at V1
      exact wX9_append_3 ta S _ _ ⟨fun _ => hQ I1 V1 f1, fun h => absurd (by decide) h⟩
    | succ j ih =>
      intro I1 tp1 hj V1 h1 f1 e
      rw [addB] at e
      rw [nzB] at h1
      rw [sh_s]
      refine wX9_append_3 ta S _ _ ⟨fun h => absurd h (nI_pos (by omega)), fun _ => ?_⟩
      have hl := bt_lt (p := p) (j := j)
      rw [bt_x p (by omega), sh_next j (by omega)]
      refine ⟨fun h => ?_, fun h => ?_⟩
      · have h0 := (tk_eq (b := 0) (by omega) (by omega)).mp h
        rw [if_pos h0] at e h1
        exact ih I1 tp1 (by omega) V1 (by omega) f1 e
      · have h0 : ¬ bt p j = 0 := fun h2 => h (by rw [h2]; rfl)
        rw [if_neg h0] at e h1
        refine ⟨fun h => ?_, fun _ => ?_⟩
        · rw [V1.2.1, show (240 : Int32) = nI 240 from rfl, tk_le (by omega) (by omega)] at h
          omega
        rw [V1.2.1, tk_c (by omega)]
        refine ⟨(tk_in (by omega) (by omega)).mpr (by omega), ?_⟩
        intro I2 e2 I3 e3
        have e21 : I2 ta 1 = nI tp1.1 := by rw [e2, zU_off (by omega)]; exact V1.2.1
        rw [e21, nI_1] at e3
        refine ih I3 (tp1.1 + 1, up tp1.2 tp1.1 (bt p j)) (by omega) ⟨by show tp1.1 + 1 ≤ 240; omega, by rw [e3, zU_self], fun k hk => ?_⟩ (by show tp1.1 + 1 + _ ≤ 240; omega) (fun b k h1 h2 => ?_) e
        · rw [e3, zU_off (by omega), e2, zU_a]
          show (if k = tp1.1 then nI (bt p j) else I1 (ta + 1) k) = nI (up tp1.2 tp1.1 (bt p j) k) ∧ 1 ≤ up tp1.2 tp1.1 (bt p j) k ∧ up tp1.2 tp1.1 (bt p j) k < 256
          by_cases hk2 : k = tp1.1
          · subst hk2
            rw [if_pos rfl, up_at]
            exact ⟨rfl, by omega, hl⟩
          · rw [if_neg hk2, up_ne hk2]
            exact V1.2.2 k (by have : k < tp1.1 + 1 := hk; omega)
        · rw [e3, zU_ne h1, e2, zU_off h2]
          exact f1 b k h1 h2
  exact loop 4 I tp (by omega) V h (fun _ _ _ _ => rfl) rfl
theorem c_put (S : hMod G R K n m t c) (V : mT I m tp) (h : tp.1 + nzB p 4 ≤ 240) (hQ : ∀ I', mT I' m (addB p 4 tp) → (∀ b k, ¬ (b = m ∧ k = 6) → b ≠ m + 1 → I' b k = I b k) → Q none (I', J, R, K, n)) : zC G (d + 1) mX12_put 0 0 [.ref m, .int p] (I, J, R, K, n) Q := by
  refine zC.of (by decide) (Nat.le_of_ble_eq_true rfl) ?_
  refine wX12_put_0 m t c S _ ?_
  have loop : ∀ (j : Nat) (I1 : Nat → Nat → Int32) (tp1 : Tpt), j ≤ 4 → mT I1 m tp1 → tp1.1 + nzB p j ≤ 240 → (∀ b k, ¬ (b = m ∧ k = 6) → b ≠ m + 1 → I1 b k = I b k) → addB p j tp1 = addB p 4 tp → zV G (d + 1) mX12_put 0 0 3 [(0, .ref m), (1, .int p), (2, .int (shI j))] [] (I1, J, R, K, n) Q := by
    intro j
    induction j with
    | zero =>
      intro I1 tp1 _ V1 h1 f1 e
      rw [addB] at e
      rw [e] at V1
      exact wX12_put_3 m t c S _ _ ⟨fun _ => hQ I1 V1 f1, fun h => absurd (by decide) h⟩
    | succ j ih =>
      intro I1 tp1 hj V1 h1 f1 e
      rw [addB] at e
      rw [nzB] at h1
      rw [sh_s]
      refine wX12_put_3 m t c S _ _ ⟨fun h => absurd h (nI_pos (by omega)), fun _ => ?_⟩
      have hl := bt_lt (p := p) (j := j)
      rw [bt_y p (by omega), sh_next j (by omega), bt_n p (by omega)]
      refine ⟨fun h => ?_, fun h => ?_⟩
      · have h0 := (tk_eq (b := 0) (by omega) (by omega)).mp h
        rw [if_pos h0] at e h1
        exact ih I1 tp1 (by omega) V1 (by omega) f1 e
      · have h0 : ¬ bt p j = 0 := fun h2 => h (by rw [h2]; rfl)
        rw [if_neg h0] at e h1
        rw [V1.2.1, tk_c (by omega)]
        refine ⟨(tk_in (by omega) (by omega)).mpr (by omega), ?_⟩
        intro I2 e2 I3 e3
        have e21 : I2 m 6 = nI tp1.1 := by rw [e2, zU_off (by omega)]; exact V1.2.1
        rw [e21, nI_1] at e3
        refine ih I3 (tp1.1 + 1, up tp1.2 tp1.1 (bt p j)) (by omega) ⟨by show tp1.1 + 1 ≤ 240; omega, by rw [e3, zU_self], fun k hk => ?_⟩ (by show tp1.1 + 1 + _ ≤ 240; omega) (fun b k h1 h2 => ?_) e
        · rw [e3, zU_off (by omega), e2, zU_a]
          show (if k = tp1.1 then sb (bt p j) else I1 (m + 1) k) = sb (up tp1.2 tp1.1 (bt p j) k) ∧ 1 ≤ up tp1.2 tp1.1 (bt p j) k ∧ up tp1.2 tp1.1 (bt p j) k < 256
          by_cases hk2 : k = tp1.1
          · subst hk2
            rw [if_pos rfl, up_at]
            exact ⟨rfl, by omega, hl⟩
          · rw [if_neg hk2, up_ne hk2]
            exact V1.2.2 k (by have : k < tp1.1 + 1 := hk; omega)
        · rw [e3, zU_ne h1, e2, zU_off h2]
          exact f1 b k h1 h2
  exact loop 4 I tp (by omega) V h (fun _ _ _ _ => rfl) rfl
def nz5 (p1 p2 p3 p4 p5 : Int32) : Nat := nzB p1 4 + nzB p2 4 + nzB p3 4 + nzB p4 4 + nzB p5 4
def fed (p1 p2 p3 p4 p5 : Int32) (tp : Tpt) : Tpt := addB p5 4 (addB p4 4 (addB p3 4 (addB p2 4 (addB p1 4 tp))))
theorem fed_len : (fed p1 p2 p3 p4 p5 tp).1 = tp.1 + nz5 p1 p2 p3 p4 p5 := by
  unfold fed nz5
  rw [addB_len, addB_len, addB_len, addB_len, addB_len]
  omega
theorem x_feed_n (C : CIv G I R K n x m v w q nx lo M lk sq vl st tp lw sp ap sg B) (hp : ¬ tp.1 + nz5 p1 p2 p3 p4 p5 ≤ 240) : XC G (d + 2) mX11_feed [.ref x, .int p1, .int p2, .int p3, .int p4, .int p5] I J R K n x m (-1) vl st tp lw sp ap sg B := by
  intro Q hQ
  replace hQ := hQ I v w q nx lo M lk sq C (fun _ _ _ => rfl)
  have l1 := nzB_le p1 4
  have l2 := nzB_le p2 4
  have l3 := nzB_le p3 4
  have l4 := nzB_le p4 4
  have l5 := nzB_le p5 4
  have lt := C.tp.1
  unfold nz5 at hp
  refine zC.of (by decide) (Nat.le_of_ble_eq_true rfl) ?_
  refine wX11_feed_0 x v w q C.X _ _ _ _ _ ?_
  refine c_bytesIn ?_
  refine ⟨_, _, rfl, rfl, ?_⟩
  refine c_bytesIn ?_
  refine ⟨_, _, rfl, rfl, ?_⟩
  refine c_bytesIn ?_
  refine ⟨_, _, rfl, rfl, ?_⟩
  refine c_bytesIn ?_
  refine ⟨_, _, rfl, rfl, ?_⟩
  refine c_bytesIn ?_
  refine ⟨_, _, rfl, rfl, ?_⟩
  rw [C.tp.2.1, nI_add, nI_add, nI_add, nI_add, nI_add, show (240 : Int32) = nI 240 from rfl, tk_le (by omega) (by omega)]
  exact ⟨fun h => absurd h (by omega), fun _ => hQ⟩
theorem x_feed_y (C : CIv G I R K n x m v w q nx lo M lk sq vl st tp lw sp ap sg B) (hp : tp.1 + nz5 p1 p2 p3 p4 p5 ≤ 240) : XC G (d + 2) mX11_feed [.ref x, .int p1, .int p2, .int p3, .int p4, .int p5] I J R K n x m (nI (tp.1 + nz5 p1 p2 p3 p4 p5)) vl st (fed p1 p2 p3 p4 p5 tp) lw sp ap sg B := by
  intro Q hQ
  have l1 := nzB_le p1 4
  have l2 := nzB_le p2 4
  have l3 := nzB_le p3 4
  have l4 := nzB_le p4 4
  have l5 := nzB_le p5 4
  have lt := C.tp.1
  have fl := fed_len (p1 := p1) (p2 := p2) (p3 := p3) (p4 := p4) (p5 := p5) (tp := tp)
  have S := X_2 C.X
  have g := C.gm
  refine zC.of (by decide) (Nat.le_of_ble_eq_true rfl) ?_
  refine wX11_feed_0 x v w q C.X _ _ _ _ _ ?_
  refine c_bytesIn ?_
  refine ⟨_, _, rfl, rfl, ?_⟩
  refine c_bytesIn ?_
  refine ⟨_, _, rfl, rfl, ?_⟩
  refine c_bytesIn ?_
  refine ⟨_, _, rfl, rfl, ?_⟩
  refine c_bytesIn ?_
  refine ⟨_, _, rfl, rfl, ?_⟩
  refine c_bytesIn ?_
  refine ⟨_, _, rfl, rfl, ?_⟩
  rw [C.tp.2.1, nI_add, nI_add, nI_add, nI_add, nI_add, show (240 : Int32) = nI 240 from rfl, tk_le (by omega) (by omega)]
  unfold nz5 at hp
  refine ⟨fun _ => ?_, fun h => absurd (by omega) h⟩
  refine c_append S C.tp (by omega) ?_
  intro I1 V1 f1
  refine ⟨_, rfl, rfl, ?_⟩
  refine c_append S V1 (by rw [addB_len]; omega) ?_
  intro I2 V2 f2
  refine ⟨_, rfl, rfl, ?_⟩
  refine c_append S V2 (by rw [addB_len, addB_len]; omega) ?_
  intro I3 V3 f3
  refine ⟨_, rfl, rfl, ?_⟩
  refine c_append S V3 (by rw [addB_len, addB_len, addB_len]; omega) ?_
  intro I4 V4 f4
  refine ⟨_, rfl, rfl, ?_⟩
  refine c_append S V4 (by rw [addB_len, addB_len, addB_len, addB_len]; omega) ?_
  intro I5 V5 f5
  refine ⟨_, rfl, rfl, ?_⟩
  rw [V5.2.1]
  have ff : ∀ b k, ¬ (b = x + 1 ∧ k = 1) → b ≠ x + 1 + 1 → I5 b k = I b k := fun b k h1 h2 => by rw [f5 b k h1 h2, f4 b k h1 h2, f3 b k h1 h2, f2 b k h1 h2, f1 b k h1 h2]
  refine qI (congrArg nI fl.symm) (hQ I5 v w q nx lo M lk sq (C.tape (tp' := fed p1 p2 p3 p4 p5 tp) (fun b k h1 h2 => ff b k (fun h => h1 ⟨h.1, Or.inl h.2⟩) h2) V5) (fun b b1 b2 => funext fun k => ff b k (by have := g.1; omega) (by have := g.1; omega)))
theorem y_feed_n (C : MIv G I J R K n m t c tl tt vl st tp lw sp ap sg B) (hp : ¬ tp.1 + nz5 p1 p2 p3 p4 p5 ≤ 240) : YC G (d + 2) mX12_feed [.ref m, .int p1, .int p2, .int p3, .int p4, .int p5] I J R K n m t c tl tt (-1) vl st tp lw sp ap sg B := by
  intro Q hQ
  obtain ⟨M1, f1⟩ := C.z0 (y := 0)
  replace hQ := hQ _ M1 f1
  have l1 := nzB_le p1 4
  have l2 := nzB_le p2 4
  have l3 := nzB_le p3 4
  have l4 := nzB_le p4 4
  have l5 := nzB_le p5 4
  have lt := C.tp_.1
  unfold nz5 at hp
  refine zC.of (by decide) (Nat.le_of_ble_eq_true rfl) ?_
  refine wX12_feed_0 m t c C.S_ _ _ _ _ _ ?_
  rintro _ rfl
  refine c_mbytesIn ?_
  refine ⟨_, _, rfl, rfl, ?_⟩
  refine c_mbytesIn ?_
  refine ⟨_, _, rfl, rfl, ?_⟩
  refine c_mbytesIn ?_
  refine ⟨_, _, rfl, rfl, ?_⟩
  refine c_mbytesIn ?_
  refine ⟨_, _, rfl, rfl, ?_⟩
  refine c_mbytesIn ?_
  refine ⟨_, _, rfl, rfl, ?_⟩
  rw [M1.tp_.2.1, nI_add, nI_add, nI_add, nI_add, nI_add, show (240 : Int32) = nI 240 from rfl, tk_le (by omega) (by omega)]
  exact ⟨fun h => absurd h (by omega), fun _ => hQ⟩
theorem y_feed_y (C : MIv G I J R K n m t c tl tt vl st tp lw sp ap sg B) (hp : tp.1 + nz5 p1 p2 p3 p4 p5 ≤ 240) : YC G (d + 2) mX12_feed [.ref m, .int p1, .int p2, .int p3, .int p4, .int p5] I J R K n m t c tl tt (nI (tp.1 + nz5 p1 p2 p3 p4 p5)) vl st (fed p1 p2 p3 p4 p5 tp) lw sp ap sg B := by
  intro Q hQ
  obtain ⟨M1, g1⟩ := C.z0 (y := 0)
  have l1 := nzB_le p1 4
  have l2 := nzB_le p2 4
  have l3 := nzB_le p3 4
  have l4 := nzB_le p4 4
  have l5 := nzB_le p5 4
  have lt := C.tp_.1
  have fl := fed_len (p1 := p1) (p2 := p2) (p3 := p3) (p4 := p4) (p5 := p5) (tp := tp)
  have S := C.S_
  refine zC.of (by decide) (Nat.le_of_ble_eq_true rfl) ?_
  refine wX12_feed_0 m t c C.S_ _ _ _ _ _ ?_
  rintro _ rfl
  refine c_mbytesIn ?_
  refine ⟨_, _, rfl, rfl, ?_⟩
  refine c_mbytesIn ?_
  refine ⟨_, _, rfl, rfl, ?_⟩
  refine c_mbytesIn ?_
  refine ⟨_, _, rfl, rfl, ?_⟩
  refine c_mbytesIn ?_
  refine ⟨_, _, rfl, rfl, ?_⟩
  refine c_mbytesIn ?_
  refine ⟨_, _, rfl, rfl, ?_⟩
  rw [M1.tp_.2.1, nI_add, nI_add, nI_add, nI_add, nI_add, show (240 : Int32) = nI 240 from rfl, tk_le (by omega) (by omega)]
  unfold nz5 at hp
  refine ⟨fun _ => ?_, fun h => absurd (by omega) h⟩
  refine c_put S M1.tp_ (by omega) ?_
  intro I1 V1 f1
  refine ⟨_, rfl, rfl, ?_⟩
  refine c_put S V1 (by rw [addB_len]; omega) ?_
  intro I2 V2 f2
  refine ⟨_, rfl, rfl, ?_⟩
  refine c_put S V2 (by rw [addB_len, addB_len]; omega) ?_
  intro I3 V3 f3
  refine ⟨_, rfl, rfl, ?_⟩
  refine c_put S V3 (by rw [addB_len, addB_len, addB_len]; omega) ?_
  intro I4 V4 f4
  refine ⟨_, rfl, rfl, ?_⟩
  refine c_put S V4 (by rw [addB_len, addB_len, addB_len, addB_len]; omega) ?_
  intro I5 V5 f5
  refine ⟨_, rfl, rfl, ?_⟩
  rw [V5.2.1]
  have ff : ∀ b k, ¬ (b = m ∧ k = 6) → b ≠ m + 1 → I5 b k = zU I m 0 0 b k := fun b k h1 h2 => by rw [f5 b k h1 h2, f4 b k h1 h2, f3 b k h1 h2, f2 b k h1 h2, f1 b k h1 h2]
  refine qI (congrArg nI fl.symm) (hQ I5 (M1.tape (tp' := fed p1 p2 p3 p4 p5 tp) ff V5) (fun b hb => ?_))
  rw [← g1 b hb]
  exact funext fun k => ff b k (by omega) (by omega)
end
