/-! THE FACE: weights, ask, on both sides -/
def cntB (g : Nat → Bool) : Nat → Nat → Nat → Nat
  | 0, _, k => k
  | j + 1, x, k => cntB g j (x + 1) (if g x = true then k + 1 else k)
theorem cntB_sum {g : Nat → Bool} : ∀ {j x : Nat}, cntB g j x (sumA (fun i => if g i = true then 1 else 0) x) = sumA (fun i => if g i = true then 1 else 0) (x + j)
  | 0, _ => rfl
  | j + 1, x => by
    rw [cntB, show x + (j + 1) = (x + 1) + j by omega, ← cntB_sum (j := j) (x := x + 1)]
    congr 1
    show _ = sumA _ x + (if g x = true then 1 else 0)
    by_cases h : g x = true
    · rw [if_pos h, if_pos h]
    · rw [if_neg h, if_neg h]; rfl
theorem sumA_congr {g g' : Nat → Nat} : ∀ {k : Nat}, (∀ i, i < k → g i = g' i) → sumA g k = sumA g' k
  | 0, _ => rfl
  | k + 1, h => by rw [sumA, sumA, h k (by omega), sumA_congr (fun i hi => h i (by omega))]
def wtA (g : Nat → Bool) (p : Int32) (j x k : Nat) : Int32 := if p = -1 then nI (cntB g j x k) else nthB g p j x k
theorem nthB_neg {g : Nat → Bool} {p : Int32} (hp : p < 0) : ∀ {j x k : Nat}, k + j < 1000 → nthB g p j x k = -1
  | 0, _, _, _ => rfl
  | j + 1, x, k, h => by
    rw [nthB, nthB_neg hp (by omega), nthB_neg hp (by omega), if_neg (show ¬ nI k = p from fun e => absurd hp (by rw [← e]; exact nI_pos (by omega)))]
    exact ite_self _
/-- more weights of this yard or above than below, or fewer -/
def sideA (g : Nat → Bool) (y : Nat → Nat) (k : Nat) : Nat → Int32
  | 0 => 0
  | x + 1 => if g x = true then sideA g y k x + (if nI (y x) < nI k then -1 else 1) else sideA g y k x
def absI (s : Int32) : Int32 := if 0 ≤ s then s else 0 - s
theorem side_le {g : Nat → Bool} {y : Nat → Nat} {k : Nat} (h0 : g 0 = false) : ∀ {x : Nat}, x < 1000 → -(x : Int) ≤ (sideA g y k (x + 1)).toInt ∧ (sideA g y k (x + 1)).toInt ≤ x
  | 0, _ => by
    rw [sideA, if_neg (by rw [h0]; decide)]
    show -((0 : Nat) : Int) ≤ (0 : Int32).toInt ∧ (0 : Int32).toInt ≤ ((0 : Nat) : Int)
    exact ⟨by decide, by decide⟩
  | x + 1, h => by
    have ih := side_le (g := g) (y := y) (k := k) h0 (x := x) (by omega)
    rw [sideA]
    split
    · rw [Int32.toInt_add]
      have h1 : (if nI (y (x + 1)) < nI k then (-1 : Int32) else 1).toInt = -1 ∨ (if nI (y (x + 1)) < nI k then (-1 : Int32) else 1).toInt = 1 := by
        split
        · exact Or.inl rfl
        · exact Or.inr rfl
      have h2 : ∀ z : Int, -2000 ≤ z → z ≤ 2000 → z.bmod (2 ^ 32) = z := fun z z1 z2 => Int.bmod_eq_of_le (by omega) (by omega)
      rw [h2 _ (by omega) (by omega)]
      omega
    · omega
theorem abs_lt {s : Int32} (h1 : -9 ≤ s.toInt) (h2 : s.toInt ≤ 9) : ¬ (10 : Int32) ≤ absI s := by
  unfold absI
  rw [Int32.le_iff_toInt_le]
  have e10 : (10 : Int32).toInt = 10 := rfl
  split
  · omega
  · rw [Int32.toInt_sub, Int.bmod_eq_of_le (by have : (0 : Int32).toInt = 0 := rfl; omega) (by have : (0 : Int32).toInt = 0 := rfl; omega)]
    have : (0 : Int32).toInt = 0 := rfl
    omega
/-- the first mark that parts the weights best -/
def markA (ab : Nat → Int32) : Nat → Nat × Int32
  | 0 => (0, ab 0)
  | k + 1 => if (markA ab k).2 ≤ ab (k + 1) then markA ab k else (k + 1, ab (k + 1))
theorem markA_le {ab : Nat → Int32} : ∀ k, (markA ab k).1 ≤ k
  | 0 => Nat.le_refl _
  | k + 1 => by
    rw [markA]
    have := markA_le (ab := ab) k
    split
    · omega
    · exact Nat.le_refl _
def askA (vl : Vt) (lw : Lwt) (sg : Sgt) (p : Nat) : Int32 := if bitsA (fitA vl lw sg p) 10 = 0 then -1 else nI (markA (fun k => absI (sideA (fitA vl lw sg p) (tellA vl lw p) k 10)) 40).1
theorem fit0 {vl : Vt} {lw : Lwt} {sg : Sgt} {p : Nat} : fitA vl lw sg p 0 = false := by unfold fitA; simp
section
variable {G : zG} {d : Nat} {I : Nat → Nat → Int32} {J : Nat → Nat → Int64} {R : Nat → Nat → Option Nat} {K : Nat → Nat × Nat} {n : Nat} {x m v w q nx lo M t c : Nat} {lk sq : Nat → Nat} {tl : Nat → Nat} {tt : Nat → Nat → Nat} {vl : Vt} {st : Stt} {tp : Tpt} {lw : Lwt} {sp : Spt} {ap : Nat} {sg : Sgt} {B B' : Nat} {p p2 : Int32} {T : Nat → Nat} {Q : Option Value → zH → Prop}
theorem x_weights_n (C : CIv G I R K n x m v w q nx lo M lk sq vl st tp lw sp ap sg B) (hp : bad vl.2.2.1 p) : XC G (d + 2) mX11_weights [.ref x, .int p, .int p2] I J R K n x m (-1) vl st tp lw sp ap sg B := by
  intro Q hQ
  replace hQ := hQ I v w q nx lo M lk sq C (fun _ _ _ => rfl)
  refine zC.of (by decide) (Nat.le_of_ble_eq_true rfl) ?_
  refine wX11_weights_0 x v w q C.X _ _ ?_
  refine c_xt C ?_
  refine ⟨_, _, rfl, rfl, ?_⟩
  exact ⟨fun _ => hQ, fun h => absurd (told_n hp) h⟩
theorem x_weights_y (C : CIv G I R K n x m v w q nx lo M lk sq vl st tp lw sp ap sg B) {k : Nat} (hk : k < vl.2.2.1) : XC G (d + 5) mX11_weights [.ref x, .int (nI k), .int p2] I J R K n x m (wtA (fitA vl lw sg k) p2 9 1 0) vl st tp lw sp ap sg B := by
  intro Q hQ
  have hnw := C.okv.2.1
  have hb := bitsA_small (fitA vl lw sg k) (k := 10) (by omega)
  refine zC.of (by decide) (Nat.le_of_ble_eq_true rfl) ?_
  refine wX11_weights_0 x v w q C.X _ _ ?_
  refine c_xt C ?_
  refine ⟨_, _, rfl, rfl, ?_⟩
  rw [told_y (by omega) hk]
  refine ⟨fun h => absurd h (by decide), fun _ => ?_⟩
  refine c_fitting C hk ?_
  intro I' hs _
  refine ⟨_, _, rfl, rfl, ?_⟩
  replace hQ := hQ I' v w q nx lo M lk sq (C.same hs) (C.mid hs)
  refine ⟨fun h => ?_, fun h => ?_⟩
  · refine c_bc10 hb ?_
    refine ⟨_, rfl, rfl, ?_⟩
    refine qI ?_ hQ
    unfold wtA pop10
    have e := cntB_sum (g := fitA vl lw sg k) (j := 9) (x := 1)
    rw [show sumA (fun i => if fitA vl lw sg k i = true then 1 else 0) 1 = 0 by show 0 + (if fitA vl lw sg k 0 = true then 1 else 0) = 0; rw [fit0]; rfl] at e
    rw [if_pos h, e]
    refine congrArg nI (sumA_congr (fun i hi => ?_))
    rw [bitsA_bit, decide_eq_true hi, Bool.true_and]
  · refine c_bitAt (s := bitsA (fitA vl lw sg k) 10) (by omega) ?_
    refine ⟨_, _, rfl, rfl, ?_⟩
    refine qI ?_ hQ
    unfold wtA
    rw [if_neg h]
    have e1 : nthB (bitsA (fitA vl lw sg k) 10).testBit p2 (30 + 1) 0 0 = nthB (bitsA (fitA vl lw sg k) 10).testBit p2 (9 + 21) 1 0 := by
      rw [nthB, if_neg (by rw [bitsA_bit, fit0, Bool.and_false]; decide)]
    refine (e1.trans ?_).symm
    rw [nthB_tail (fun i hi => by rw [bitsA_bit, decide_eq_false (by omega), Bool.false_and])]
    refine nthB_congr (fun i h1 h2 => ?_)
    rw [bitsA_bit, decide_eq_true (by omega), Bool.true_and]
theorem x_ask_n (C : CIv G I R K n x m v w q nx lo M lk sq vl st tp lw sp ap sg B) (hp : bad vl.2.2.1 p) : XC G (d + 2) mX11_ask [.ref x, .int p] I J R K n x m (-1) vl st tp lw sp ap sg B := by
  intro Q hQ
  replace hQ := hQ I v w q nx lo M lk sq C (fun _ _ _ => rfl)
  refine zC.of (by decide) (Nat.le_of_ble_eq_true rfl) ?_
  refine wX11_ask_0 x v w q C.X _ ?_
  refine c_xt C ?_
  refine ⟨_, _, rfl, rfl, ?_⟩
  exact ⟨fun _ => hQ, fun h => absurd (told_n hp) h⟩
theorem c_apart (S : hSig G R K n (x + 82) (x + 20) (x + 3) v) {g : Nat → Bool} {y : Nat → Nat} (h0 : g 0 = false) (hy : ∀ i, 1 ≤ i → i < 10 → I (x + 86) i = nI (y i)) {k : Nat} (hQ : Q (some (.int (absI (sideA g y k 10)))) (I, J, R, K, n)) : zC G (d + 1) mX6_apart 0 0 [.ref (x + 82), .int (nI (bitsA g 10)), .int (nI k)] (I, J, R, K, n) Q := by
  have hb := bitsA_small g (k := 10) (by omega)
  refine zC.of (by decide) (Nat.le_of_ble_eq_true rfl) ?_
  refine wX6_apart_0 (x + 82) (x + 20) (x + 3) v S _ _ ?_
  have loop : ∀ j i : Nat, i + j = 10 → 1 ≤ i → zV G (d + 1) mX6_apart 0 0 5 [(0, .ref (x + 82)), (1, .int (nI (bitsA g 10))), (2, .int (nI k)), (3, .int (sideA g y k i)), (4, .int (nI i))] [] (I, J, R, K, n) Q := by
    intro j
    induction j with
    | zero =>
      intro i hi _
      obtain rfl : i = 10 := by omega
      exact wX6_apart_5 (x + 82) (x + 20) (x + 3) v S _ _ _ _ ⟨fun _ => hQ, fun h => absurd (by decide) h⟩
    | succ j ih =>
      intro i hi h1
      refine wX6_apart_5 (x + 82) (x + 20) (x + 3) v S _ _ _ _ ⟨fun h => ?_, fun _ => ?_⟩
      · rw [show (9 : Int32) = nI 9 from rfl, tk_lt (by omega) (by omega)] at h
        omega
      rw [tk_bit (by omega) (by omega), bitsA_bit, decide_eq_true (show i < 10 by omega), Bool.true_and, nI_1, tk_c (by omega), show x + 82 + 4 = x + 86 from rfl, hy i h1 (by omega)]
      have e := ih (i + 1) (by omega) (by omega)
      rw [sideA] at e
      refine ⟨fun h => ⟨(tk_in (by omega) (by omega)).mpr (by omega), ?_⟩, fun h => ?_⟩
      · rw [if_pos h] at e; exact e
      · rw [if_neg h] at e; exact e
  have e1 : sideA g y k 1 = 0 := by rw [sideA, if_neg (by rw [h0]; decide)]; rfl
  have := loop 9 1 (by omega) (by omega)
  rw [e1] at this
  exact this
theorem x_ask_y (C : CIv G I R K n x m v w q nx lo M lk sq vl st tp lw sp ap sg B) {p : Nat} (hp : p < vl.2.2.1) : XC G (d + 6) mX11_ask [.ref x, .int (nI p)] I J R K n x m (askA vl lw sg p) vl st tp lw sp ap sg B := by
  intro Q hQ
  have hnw := C.okv.2.1
  have hb := bitsA_small (fitA vl lw sg p) (k := 10) (by omega)
  have S := X_13 C.X
  refine zC.of (by decide) (Nat.le_of_ble_eq_true rfl) ?_
  refine wX11_ask_0 x v w q C.X _ ?_
  refine c_xt C ?_
  refine ⟨_, _, rfl, rfl, ?_⟩
  rw [told_y (by omega) hp]
  refine ⟨fun h => absurd h (by decide), fun _ => ?_⟩
  refine zC.of (by decide) (Nat.le_of_ble_eq_true rfl) ?_
  refine wX6_bestMark_0 (x + 82) (x + 20) (x + 3) v S _ ?_
  refine c_fitting C hp ?_
  intro I' hs r
  refine ⟨_, _, rfl, rfl, ?_⟩
  replace hQ := hQ I' v w q nx lo M lk sq (C.same hs) (C.mid hs)
  unfold askA at hQ
  by_cases he : bitsA (fitA vl lw sg p) 10 = 0
  · rw [if_pos he] at hQ
    refine wX6_bestMark_15 (x + 82) (x + 20) (x + 3) v S _ _ _ _ _ ⟨fun h => absurd h (by decide), fun _ => ⟨fun _ => ?_, fun h => absurd (by rw [he]; rfl) h⟩⟩
    exact ⟨_, _, rfl, rfl, hQ⟩
  rw [if_neg he] at hQ
  have hne : ¬ nI (bitsA (fitA vl lw sg p) 10) = 0 := fun h => he ((tk_eq (b := 0) (by omega) (by omega)).mp h)
  have ap : ∀ {d' : Nat} {k : Nat} {Q' : Option Value → zH → Prop}, Q' (some (.int (absI (sideA (fitA vl lw sg p) (tellA vl lw p) k 10)))) (I', J, R, K, n) → zC G (d' + 1) mX6_apart 0 0 [.ref (x + 82), .int (nI (bitsA (fitA vl lw sg p) 10)), .int (nI k)] (I', J, R, K, n) Q' := fun h => c_apart S fit0 r h
  have loop : ∀ j k : Nat, k + j = 40 → zV G (d + 5) mX6_bestMark 0 0 15 [(0, .ref (x + 82)), (1, .int (nI p)), (2, .int (nI (bitsA (fitA vl lw sg p) 10))), (3, .int (nI (markA (fun k => absI (sideA (fitA vl lw sg p) (tellA vl lw p) k 10)) k).1)), (4, .int (markA (fun k => absI (sideA (fitA vl lw sg p) (tellA vl lw p) k 10)) k).2), (5, .int (nI (k + 1)))] [] (I', J, R, K, n) (fun r h => ∃ (x4 : Int32) (I5 : Nat → Nat → Int32), r = some (.int x4) ∧ h = (I5, J, R, K, n) ∧ Q (some (.int x4)) (I5, J, R, K, n)) := by
    intro j
    induction j with
    | zero =>
      intro k hk
      obtain rfl : k = 40 := by omega
      exact wX6_bestMark_15 (x + 82) (x + 20) (x + 3) v S _ _ _ _ _ ⟨fun _ => ⟨_, _, rfl, rfl, hQ⟩, fun h => absurd (by decide) h⟩
    | succ j ih =>
      intro k hk
      refine wX6_bestMark_15 (x + 82) (x + 20) (x + 3) v S _ _ _ _ _ ⟨fun h => ?_, fun _ => ⟨fun h => absurd h hne, fun _ => ?_⟩⟩
      · rw [show (40 : Int32) = nI 40 from rfl, tk_lt (by omega) (by omega)] at h
        omega
      refine ap ?_
      refine ⟨_, _, rfl, rfl, ?_⟩
      rw [nI_1]
      have e := ih (k + 1) (by omega)
      rw [markA] at e
      refine ⟨fun h => ?_, fun h => ?_⟩
      · rw [if_pos h] at e; exact e
      · rw [if_neg h] at e; exact e
  refine wX6_bestMark_15 (x + 82) (x + 20) (x + 3) v S _ _ _ _ _ ⟨fun h => absurd h (by decide), fun _ => ⟨fun h => absurd h hne, fun _ => ?_⟩⟩
  refine ap (k := 0) ?_
  refine ⟨_, _, rfl, rfl, ?_⟩
  have sl := side_le (g := fitA vl lw sg p) (y := tellA vl lw p) (k := 0) fit0 (x := 9) (by omega)
  exact ⟨fun h => absurd h (abs_lt sl.1 sl.2), fun _ => loop 40 0 (by omega)⟩
end
