/-! THE FACE: weights, ask -/
/-- what was seen of place p agrees with y yards -/
def agrA (sg : Sgt) (p y : Nat) : Nat → Nat → Bool
  | 0, _ => true
  | j + 1, i => if sg.2 (3 * i) = p then (if (y < sg.2 (3 * i + 1) ↔ sg.2 (3 * i + 2) = 0) then agrA sg p y j (i + 1) else false) else agrA sg p y j (i + 1)
def fitA (vl : Vt) (lw : Lwt) (sg : Sgt) (p : Nat) : Nat → Bool := fun x => decide (1 ≤ x) && agrA sg p (tellA vl lw p x) sg.1 0
def pop10 (s : Nat) : Nat := sumA (fun j => if s.testBit j then 1 else 0) 10
theorem bc_dec10 : ∀ s : Nat, s < 1024 → nI (pop10 s) = bcI (nI s) := by decide +kernel
/-- the p-th of those from x on -/
def nthB (g : Nat → Bool) (p : Int32) : Nat → Nat → Nat → Int32
  | 0, _, _ => -1
  | j + 1, x, k => if g x = true then (if nI k = p then nI x else nthB g p j (x + 1) (k + 1)) else nthB g p j (x + 1) k
theorem nthB_none {g : Nat → Bool} {p : Int32} : ∀ {j x k : Nat}, (∀ i, x ≤ i → g i = false) → nthB g p j x k = -1
  | 0, _, _, _ => rfl
  | j + 1, x, k, h => by
    rw [nthB, if_neg (by rw [h x (by omega)]; decide)]
    exact nthB_none (fun i hi => h i (by omega))
theorem nthB_tail {g : Nat → Bool} {p : Int32} {e : Nat} : ∀ {j x k : Nat}, (∀ i, x + j ≤ i → g i = false) → nthB g p (j + e) x k = nthB g p j x k
  | 0, x, k, h => by rw [Nat.zero_add, nthB_none (fun i hi => h i (by omega))]; rfl
  | j + 1, x, k, h => by
    rw [show j + 1 + e = (j + e) + 1 by omega, nthB, nthB, nthB_tail (fun i hi => h i (by omega)), nthB_tail (fun i hi => h i (by omega))]
theorem nthB_congr {g g' : Nat → Bool} {p : Int32} : ∀ {j x k : Nat}, (∀ i, x ≤ i → i < x + j → g i = g' i) → nthB g p j x k = nthB g' p j x k
  | 0, _, _, _ => rfl
  | j + 1, x, k, h => by rw [nthB, nthB, h x (by omega) (by omega), nthB_congr (fun i h1 h2 => h i (by omega) (by omega)), nthB_congr (fun i h1 h2 => h i (by omega) (by omega))]
section
variable {G : zG} {d : Nat} {I : Nat → Nat → Int32} {J : Nat → Nat → Int64} {R : Nat → Nat → Option Nat} {K : Nat → Nat × Nat} {n : Nat} {x m v w q nx lo M t c : Nat} {lk sq : Nat → Nat} {tl : Nat → Nat} {tt : Nat → Nat → Nat} {vl : Vt} {st : Stt} {tp : Tpt} {lw : Lwt} {sp : Spt} {ap : Nat} {sg : Sgt} {B B' : Nat} {p2 : Int32} {T : Nat → Nat} {Q : Option Value → zH → Prop}
theorem c_bitAt {s : Nat} (hs : s < 2147483648) {p : Int32} (hQ : Q (some (.int (nthB s.testBit p 31 0 0))) (I, J, R, K, n)) : zC G (d + 1) mX11_bitAt 0 0 [.int (nI s), .int p] (I, J, R, K, n) Q := by
  refine zC.of (by decide) (Nat.le_of_ble_eq_true rfl) ?_
  refine wX11_bitAt_0 _ _ ?_
  have loop : ∀ j i k : Nat, i + j = 31 → Q (some (.int (nthB s.testBit p j i k))) (I, J, R, K, n) → zV G (d + 1) mX11_bitAt 0 0 4 [(0, .int (nI s)), (1, .int p), (2, .int (nI k)), (3, .int (nI i))] [] (I, J, R, K, n) Q := by
    intro j
    induction j with
    | zero =>
      intro i k hi hq
      obtain rfl : i = 31 := by omega
      exact wX11_bitAt_4 _ _ _ _ ⟨fun _ => hq, fun h => absurd (by decide) h⟩
    | succ j ih =>
      intro i k hi hq
      rw [nthB] at hq
      refine wX11_bitAt_4 _ _ _ _ ⟨fun h => ?_, fun _ => ?_⟩
      · rw [show (31 : Int32) = nI 31 from rfl, tk_le (by omega) (by omega)] at h
        omega
      rw [tk_bit hs (by omega), nI_1, nI_1]
      refine ⟨fun h => ?_, fun h => ?_⟩
      · rw [if_pos h] at hq
        refine ⟨fun h2 => ?_, fun h2 => ?_⟩
        · rw [if_pos h2] at hq; exact hq
        · rw [if_neg h2] at hq; exact ih (i + 1) (k + 1) (by omega) hq
      · rw [if_neg h] at hq
        exact ih (i + 1) k (by omega) hq
  exact loop 31 0 0 (by omega) hQ
theorem c_bc10 {s : Nat} (hs : s < 1024) (hQ : Q (some (.int (nI (pop10 s)))) (I, J, R, K, n)) : zC G (d + 1) mJ6_bitCount_0f7a4 0 0 [.int (nI s)] (I, J, R, K, n) Q := by
  refine zC.of (by decide) (Nat.le_of_ble_eq_true rfl) ?_
  refine wJ6_bitCount_0f7a4_0 _ ?_
  exact qI (bc_dec10 s hs) hQ
theorem c_agrees (C : CIv G I R K n x m v w q nx lo M lk sq vl st tp lw sp ap sg B) {p y : Nat} (hp : p < 9) (hy : y < 1000) (hQ : Q (some (.int (if agrA sg p y sg.1 0 = true then 1 else 0))) (I, J, R, K, n)) : zC G (d + 1) mX6_agrees 0 0 [.ref (x + 82), .int (nI p), .int (nI y)] (I, J, R, K, n) Q := by
  obtain ⟨g1, g2, g3⟩ := C.cg
  refine zC.of (by decide) (Nat.le_of_ble_eq_true rfl) ?_
  refine wX6_agrees_0 (x + 82) (x + 20) (x + 3) v (X_13 C.X) _ _ ?_
  have loop : ∀ j i : Nat, i + j = sg.1 → Q (some (.int (if agrA sg p y j i = true then 1 else 0))) (I, J, R, K, n) → zV G (d + 1) mX6_agrees 0 0 2 [(0, .ref (x + 82)), (1, .int (nI p)), (2, .int (nI y)), (3, .int (nI i))] [] (I, J, R, K, n) Q := by
    intro j
    induction j with
    | zero =>
      intro i hi hq
      refine wX6_agrees_2 (x + 82) (x + 20) (x + 3) v (X_13 C.X) _ _ _ ⟨fun _ => hq, fun h => absurd ?_ h⟩
      rw [g2, tk_le (by omega) (by omega)]
      omega
    | succ j ih =>
      intro i hi hq
      rw [agrA] at hq
      obtain ⟨a1, a2, a3, a4, a5, a6⟩ := g3 i (by omega)
      have hin : vp_in (nI i) 10 := (tk_in (by omega) (by omega)).mpr (by omega)
      refine wX6_agrees_2 (x + 82) (x + 20) (x + 3) v (X_13 C.X) _ _ _ ⟨fun h => ?_, fun _ => ⟨hin, ?_⟩⟩
      · rw [g2, tk_le (by omega) (by omega)] at h
        omega
      rw [tk_c (by omega), show x + 82 + 1 = x + 83 from rfl, show x + 82 + 2 = x + 84 from rfl, show x + 82 + 3 = x + 85 from rfl, a1, a2, a3, nI_1, tk_eq (by omega) (by omega)]
      refine ⟨fun h => ⟨hin, hin, ?_⟩, fun h => ?_⟩
      · rw [if_pos h] at hq
        have key : ((if nI y < nI (sg.2 (3 * i + 1)) then (0 : Int32) else 1) = nI (sg.2 (3 * i + 2))) ↔ (y < sg.2 (3 * i + 1) ↔ sg.2 (3 * i + 2) = 0) := by
          by_cases h1 : y < sg.2 (3 * i + 1)
          · rw [if_pos ((tk_lt (by omega) (by omega)).mpr h1), show (0 : Int32) = nI 0 from rfl, tk_eq (by omega) (by omega)]
            omega
          · rw [if_neg (fun h => h1 ((tk_lt (by omega) (by omega)).mp h)), show (1 : Int32) = nI 1 from rfl, tk_eq (by omega) (by omega)]
            omega
        rw [key]
        refine ⟨fun h2 => ?_, fun h2 => ?_⟩
        · rw [if_pos h2] at hq; exact ih (i + 1) (by omega) hq
        · rw [if_neg h2] at hq; exact hq
      · rw [if_neg h] at hq
        exact ih (i + 1) (by omega) hq
  exact loop sg.1 0 (by omega) hQ
theorem tell_le {p y : Nat} (W : okVl vl) (hp : p < vl.2.2.1) : tellA vl lw p y ≤ 40 := by
  have := (W.1.2 _ (W.2.2.2.2 p hp).2.1).2.1
  unfold tellA
  omega
theorem c_fitting (C : CIv G I R K n x m v w q nx lo M lk sq vl st tp lw sp ap sg B) {p : Nat} (hp : p < vl.2.2.1) (hQ : ∀ I', (∀ b k, ¬ scr x w q nx lk lw.1 b k → I' b k = I b k) → (∀ y, 1 ≤ y → y < 10 → I' (x + 86) y = nI (tellA vl lw p y)) → Q (some (.int (nI (bitsA (fitA vl lw sg p) 10)))) (I', J, R, K, n)) : zC G (d + 4) mX6_fitting 0 0 [.ref (x + 82), .int (nI p)] (I, J, R, K, n) Q := by
  have hnw := C.okv.2.1
  have hB := C.oks.1.2.2.2.2.2.2.2.2.2
  obtain ⟨-, -, -, a4, a5⟩ := C.okv.2.2.2.2 p hp
  have hin : vp_in (nI p) 9 := (tk_in (by omega) (by omega)).mpr (by omega)
  have ob := okT.begin_ C.okv hB
  have b2 := begin_w (vl := vl) (j := 2) hp (by omega)
  refine zC.of (by decide) (Nat.le_of_ble_eq_true rfl) ?_
  refine wX6_fitting_0 (x + 82) (x + 20) (x + 3) v (X_13 C.X) _ ?_
  refine c_begin (X_7 C.X) C.g2 C.cv C.okv ?_
  intro I1 cs1 f1
  refine ⟨_, rfl, rfl, ?_⟩
  have loop : ∀ (j k : Nat) (I2 : Nat → Nat → Int32) (z : Nat), k + j = 10 → 1 ≤ k → 1 ≤ z → z ≤ 9 → (∀ b k, ¬ scr x w q nx lk lw.1 b k → I2 b k = I b k) → CS I2 (x + 20) (up (beginT vl) (3 * p + 2) z) → (∀ y, 1 ≤ y → y < k → I2 (x + 86) y = nI (tellA vl lw p y)) → zV G (d + 4) mX6_fitting 0 0 11 [(0, .ref (x + 82)), (1, .int (nI p)), (2, .int (nI (bitsA (fitA vl lw sg p) k))), (3, .int (nI k))] [] (I2, J, R, K, n) Q := by
    intro j
    induction j with
    | zero =>
      intro k I2 z hk _ _ _ hs cs r
      obtain rfl : k = 10 := by omega
      exact wX6_fitting_11 (x + 82) (x + 20) (x + 3) v (X_13 C.X) _ _ _ ⟨fun _ => hQ I2 hs r, fun h => absurd (by decide) h⟩
    | succ j ih =>
      intro k I2 z hk k1 z1 z9 hs cs r
      have hk10 : vp_in (nI k) 10 := (tk_in (by omega) (by omega)).mpr (by omega)
      refine wX6_fitting_11 (x + 82) (x + 20) (x + 3) v (X_13 C.X) _ _ _ ⟨fun h => ?_, fun _ => ⟨hin, ?_⟩⟩
      · rw [show (9 : Int32) = nI 9 from rfl, tk_lt (by omega) (by omega)] at h
        omega
      rw [tk_c (by omega), tk_c (by omega)]
      intro I3 e3
      have cs3 := cs.wt (p := p) (x := k) (by omega) (by rw [up_at]; omega)
      rw [up_up, ← show I3 = zU I2 (x + 20 + 3) p (nI k) from e3] at cs3
      have hs3 : ∀ b k, ¬ scr x w q nx lk lw.1 b k → I3 b k = I b k := fun b i hb => by
        rw [e3, zU_off (fun e => hb (by unfold scr; omega))]
        exact hs b i hb
      have C3 := C.same hs3
      have ok3 : okT B vl.1 vl.2.1 (up (beginT vl) (3 * p + 2) k) := ob.wt (by omega) (by rw [b2]; omega) (by omega)
      refine c_yardsOf (X_7 C.X) C3.g2 C3.cv.1 C.okv.1 cs3 ok3 C3.lwh (p := p) (by omega) (by rw [up_at]; omega) ?_
      intro I5 F5
      refine ⟨_, _, rfl, rfl, hk10, ?_⟩
      rw [tell_eq C.okv hp]
      intro I6 e6
      have hs6 : ∀ b k, ¬ scr x w q nx lk lw.1 b k → I6 b k = I b k := fun b i hb => by
        rw [e6, zU_off (fun e => hb (by unfold scr; omega)), C3.fr F5 not_false hb]
        exact hs3 b i hb
      have lo5 : ∀ b, b ≠ x + 11 → b < x + 111 → I5 b = I3 b := fun b h1 h2 => F5.low C3.lwh not_false h1 h2
      have r6 : ∀ y, 1 ≤ y → y < k + 1 → I6 (x + 86) y = nI (tellA vl lw p y) := fun y y1 y2 => by
        rw [e6, zU_a]
        by_cases e : y = k
        · rw [if_pos e, e]
        · rw [if_neg e, lo5 _ (by omega) (by omega), e3, zU_off (by omega)]
          exact r y y1 (by omega)
      rw [show x + 82 + 4 = x + 86 from rfl, r6 k k1 (by omega)]
      refine ⟨hk10, ?_⟩
      have tl := tell_le (lw := lw) (y := k) C.okv hp
      refine c_agrees (C.same hs6) (p := p) (y := tellA vl lw p k) (by omega) (by omega) ?_
      refine ⟨_, _, rfl, rfl, ?_⟩
      have cs6 : CS I6 (x + 20) (up (beginT vl) (3 * p + 2) k) := cs3.same (fun b b1 b2 => by rw [e6, zU_off (by omega), lo5 b (by omega) (by omega)])
      rw [nI_1, tk_shl k (by omega)]
      have e := ih (k + 1) I6 k (by omega) (by omega) k1 (by omega) hs6 cs6 r6
      rw [← bitsA_or (x := if fitA vl lw sg p k = true then 2 ^ k else 0) (fun h => if_pos h) (fun h => if_neg (by rw [h]; decide)), ← tk_or] at e
      have key : (if (if agrA sg p (tellA vl lw p k) sg.1 0 = true then (1 : Int32) else 0) = 0 then 0 else nI (2 ^ k)) = nI (if fitA vl lw sg p k = true then 2 ^ k else 0) := by
        have ef : fitA vl lw sg p k = agrA sg p (tellA vl lw p k) sg.1 0 := by
          unfold fitA
          rw [decide_eq_true k1, Bool.true_and]
        rw [ef]
        cases agrA sg p (tellA vl lw p k) sg.1 0
        · rfl
        · rfl
      rw [key]
      exact e
  have e0 : bitsA (fitA vl lw sg p) 1 = 0 := by
    have := bitsA_or (P := fitA vl lw sg p) (k := 0) (x := 0) (fun h => absurd h (by unfold fitA; simp)) (fun _ => rfl)
    exact this.symm.trans (Nat.or_zero _)
  have := loop 9 1 I1 (beginT vl (3 * p + 2)) (by omega) (by omega) (by rw [b2]; omega) (by rw [b2]; omega) (fun b k hb => by rw [f1 b (fun h => hb (by unfold scr; omega))]) (by rw [up_id]; exact cs1) (fun y y1 y2 => absurd y1 (by omega))
  rw [e0] at this
  exact this
end
