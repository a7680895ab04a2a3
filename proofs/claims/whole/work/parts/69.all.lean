/-! THE FACE: all -/
def mesA (Y T : Nat → Nat) (k f : Nat) : Nat := if k = 0 then T (27 + 3 * f) else if k = 1 then bareA Y T f else if k = 2 then Y (2 * f + 1) else if k = 3 then Y (2 * f) else if k = 4 then popA (byA T f) else popA (toA T f)
/-- the first of the greatest -/
def topA (g : Nat → Nat) : Nat → Nat
  | 0 => 0
  | k + 1 => if g k ≤ g (topA g k) then topA g k else k
theorem topA_lt {g : Nat → Nat} : ∀ {k : Nat}, 0 < k → topA g k < k
  | 0, h => absurd h (by omega)
  | k + 1, _ => by
    rw [topA]
    by_cases e : 0 < k
    · have := topA_lt (g := g) e
      split <;> omega
    · obtain rfl : k = 0 := by omega
      split
      · show 0 < 1; omega
      · omega
def oI : Option Nat → Int32
  | none => -1
  | some k => nI k
def heavN (T : Nat → Nat) : Nat → Option Nat
  | 0 => none
  | k + 1 => if T (3 * k + 2) = 0 then heavN T k else match heavN T k with
    | none => some k
    | some j => if T (3 * k + 2) ≤ T (3 * j + 2) then some j else some k
theorem heavN_lt {T : Nat → Nat} : ∀ {k j : Nat}, heavN T k = some j → j < k
  | 0, _, h => by cases h
  | k + 1, j, h => by
    rw [heavN] at h
    by_cases e : T (3 * k + 2) = 0
    · rw [if_pos e] at h
      have := heavN_lt h
      omega
    · rw [if_neg e] at h
      cases e2 : heavN T k with
      | none =>
        rw [e2] at h
        cases h
        omega
      | some y =>
        rw [e2] at h
        have := heavN_lt e2
        simp only at h
        split at h
        · cases h; omega
        · cases h; omega
def allA (vl : Vt) (T : Nat → Nat) (k : Nat) : Int32 := if k < 6 then nI (topA (mesA vl.2.1 T k) vl.1) else if k = 6 then oI (heavN T 9) else if k = 7 then nI (whitesA vl.1 vl.2.1 T) else if k = 8 then nI (falsesA vl.1 T) else if k = 9 then nI (opensA T) else if k = 10 then nI (sumA (bareA vl.2.1 T) vl.1 - T 47) else if k = 11 then nI (sumA (fun f => T (27 + 3 * f)) vl.1) else nI (sumA (fun f => T (28 + 3 * f)) vl.1)
section
variable {G : zG} {d : Nat} {I : Nat → Nat → Int32} {J : Nat → Nat → Int64} {R : Nat → Nat → Option Nat} {K : Nat → Nat × Nat} {n : Nat} {x m v w q nx lo M t c : Nat} {lk sq : Nat → Nat} {tl : Nat → Nat} {tt : Nat → Nat → Nat} {vl : Vt} {st : Stt} {tp : Tpt} {lw : Lwt} {sp : Spt} {ap : Nat} {sg : Sgt} {B B' : Nat} {p p2 p3 : Int32} {T : Nat → Nat} {Q : Option Value → zH → Prop}
theorem mesA_small {nf : Nat} {Y T : Nat → Nat} (W : okV nf Y) (O : okT B nf Y T) {k f : Nat} (hf : f < nf) : mesA Y T k f ≤ 1000 := by
  have h6 := W.1
  have := O.t W (f := f) (by omega)
  have := bareA_le (T := T) W hf
  have := W.2 f hf
  have := popA_le (byA T f)
  have := popA_le (toA T f)
  unfold mesA
  split
  · omega
  split
  · omega
  split
  · omega
  split
  · omega
  split <;> omega
theorem c_measure (C : CIv G I R K n x m v w q nx lo M lk sq vl st tp lw sp ap sg B) {f k : Nat} (hf : f < vl.1) (hk : k < 6) (hQ : Q (some (.int (nI (mesA vl.2.1 st.1 k f)))) (I, J, R, K, n)) : zC G (d + 3) mX11_measure 0 0 [.ref x, .int (nI f), .int (nI k)] (I, J, R, K, n) Q := by
  have h6 := C.okv.1.1
  have hin : vp_in (nI f) 6 := (tk_in (by omega) (by omega)).mpr (by omega)
  refine zC.of (by decide) (Nat.le_of_ble_eq_true rfl) ?_
  refine wX11_measure_0 x v w q C.X _ _ ?_
  rw [tk_c (by omega)]
  have hc : k = 0 ∨ k = 1 ∨ k = 2 ∨ k = 3 ∨ k = 4 ∨ k = 5 := by omega
  refine ⟨fun h => ⟨hin, ?_⟩, fun h => ?_, fun h => ⟨hin, ?_⟩, fun h => ⟨hin, ?_⟩, fun h => ?_, fun h0 h1 h2 h3 h4 => ?_⟩
  · rw [show (0 : Int32) = nI 0 from rfl, tk_eq (by omega) (by omega)] at h
    subst h
    exact qI (C.cs.2.1 f (by omega)).1.symm hQ
  · rw [show (1 : Int32) = nI 1 from rfl, tk_eq (by omega) (by omega)] at h
    subst h
    refine c_bare (X_5 C.X) C.cv.1 C.okv.1 C.cs C.oks.1 hf ?_
    refine ⟨_, _, rfl, rfl, ?_⟩
    exact hQ
  · rw [show (2 : Int32) = nI 2 from rfl, tk_eq (by omega) (by omega)] at h
    subst h
    exact qI (C.cv.1.2 f hf).2.symm hQ
  · rw [show (3 : Int32) = nI 3 from rfl, tk_eq (by omega) (by omega)] at h
    subst h
    exact qI (C.cv.1.2 f hf).1.symm hQ
  · rw [show (4 : Int32) = nI 4 from rfl, tk_eq (by omega) (by omega)] at h
    subst h
    refine c_doneBy (X_5 C.X) C.okv.1 C.cs C.oks.1 (f := f) (by omega) ?_
    refine ⟨_, _, rfl, rfl, ?_⟩
    refine c_bitCount (bits_9 _ (by omega)) ?_
    refine ⟨_, rfl, rfl, ?_⟩
    exact hQ
  · rcases hc with rfl | rfl | rfl | rfl | rfl | rfl
    · exact absurd rfl h0
    · exact absurd rfl h1
    · exact absurd rfl h2
    · exact absurd rfl h3
    · exact absurd rfl h4
    · refine c_doneTo (X_5 C.X) C.okv.1 C.cs C.oks.1 (f := f) (by omega) ?_
      refine ⟨_, _, rfl, rfl, ?_⟩
      refine c_bitCount (bits_9 _ (by omega)) ?_
      refine ⟨_, rfl, rfl, ?_⟩
      exact hQ
theorem c_foremost (C : CIv G I R K n x m v w q nx lo M lk sq vl st tp lw sp ap sg B) (hv : 0 < vl.1) {k : Nat} (hk : k < 6) (hQ : Q (some (.int (nI (topA (mesA vl.2.1 st.1 k) vl.1)))) (I, J, R, K, n)) : zC G (d + 4) mX11_foremost 0 0 [.ref x, .int (nI k)] (I, J, R, K, n) Q := by
  have h6 := C.okv.1.1
  refine zC.of (by decide) (Nat.le_of_ble_eq_true rfl) ?_
  refine wX11_foremost_0 x v w q C.X _ ?_
  have loop : ∀ j i : Nat, i + j = vl.1 → 0 < i → zV G (d + 4) mX11_foremost 0 0 4 [(0, .ref x), (1, .int (nI k)), (2, .int (nI (topA (mesA vl.2.1 st.1 k) i))), (3, .int (nI i))] [] (I, J, R, K, n) Q := by
    intro j
    induction j with
    | zero =>
      intro i hi _
      obtain rfl : i = vl.1 := by omega
      refine wX11_foremost_4 x v w q C.X _ _ _ ⟨fun _ => hQ, fun h => absurd ?_ h⟩
      rw [C.cv.1.1, tk_le (by omega) (by omega)]
      omega
    | succ j ih =>
      intro i hi h0
      have ht := topA_lt (g := mesA vl.2.1 st.1 k) h0
      refine wX11_foremost_4 x v w q C.X _ _ _ ⟨fun h => ?_, fun _ => ?_⟩
      · rw [C.cv.1.1, tk_le (by omega) (by omega)] at h
        omega
      refine c_measure C (f := i) (by omega) hk ?_
      refine ⟨_, _, rfl, rfl, ?_⟩
      refine c_measure C (f := topA (mesA vl.2.1 st.1 k) i) (by omega) hk ?_
      refine ⟨_, _, rfl, rfl, ?_⟩
      have b1 := mesA_small (k := k) (f := i) C.okv.1 C.oks.1 (by omega)
      have b2 := mesA_small (k := k) (f := topA (mesA vl.2.1 st.1 k) i) C.okv.1 C.oks.1 (by omega)
      rw [tk_le (by omega) (by omega), nI_1]
      have e := ih (i + 1) (by omega) (by omega)
      rw [topA] at e
      refine ⟨fun h => ?_, fun h => ?_⟩
      · rw [if_pos h] at e; exact e
      · rw [if_neg h] at e; exact e
  have h1 : topA (mesA vl.2.1 st.1 k) 1 = 0 := by have := topA_lt (g := mesA vl.2.1 st.1 k) (k := 1) (by omega); omega
  have := loop (vl.1 - 1) 1 (by omega) (by omega)
  rw [h1] at this
  exact this
theorem c_heaviest (C : CIv G I R K n x m v w q nx lo M lk sq vl st tp lw sp ap sg B) (hQ : Q (some (.int (oI (heavN st.1 9)))) (I, J, R, K, n)) : zC G (d + 1) mX11_heaviestPlace 0 0 [.ref x] (I, J, R, K, n) Q := by
  refine zC.of (by decide) (Nat.le_of_ble_eq_true rfl) ?_
  refine wX11_heaviestPlace_0 x v w q C.X ?_
  have loop : ∀ j i : Nat, i + j = 9 → zV G (d + 1) mX11_heaviestPlace 0 0 4 [(0, .ref x), (1, .int (oI (heavN st.1 i))), (2, .int (nI i))] [] (I, J, R, K, n) Q := by
    intro j
    induction j with
    | zero =>
      intro i hi
      obtain rfl : i = 9 := by omega
      exact wX11_heaviestPlace_4 x v w q C.X _ _ ⟨fun _ => hQ, fun h => absurd (by decide) h⟩
    | succ j ih =>
      intro i hi
      have hin : ∀ y, y < 9 → vp_in (nI y) 9 := fun y hy => (tk_in (by omega) (by omega)).mpr hy
      have e15 : ∀ y, y < 9 → I (x + 15) (nI y).toNatClampNeg = nI (st.1 (3 * y + 2)) := fun y hy => by rw [tk_c (by omega)]; exact (C.cs.1 y hy).1
      have o := (C.oks.1.1 i (by omega)).1
      refine wX11_heaviestPlace_4 x v w q C.X _ _ ⟨fun h => ?_, fun _ => ⟨hin i (by omega), ?_⟩⟩
      · rw [show (9 : Int32) = nI 9 from rfl, tk_le (by omega) (by omega)] at h
        omega
      rw [e15 i (by omega), nI_1, show (0 : Int32) = nI 0 from rfl, tk_le (by omega) (by omega)]
      have e := ih (i + 1) (by omega)
      rw [heavN] at e
      refine ⟨fun h => ?_, fun h => ?_⟩
      · rw [if_pos (by omega)] at e; exact e
      · rw [if_neg (by omega)] at e
        cases e2 : heavN st.1 i with
        | none =>
          rw [e2] at e
          exact ⟨fun _ => e, fun h => absurd rfl h⟩
        | some y =>
          rw [e2] at e
          have hy := heavN_lt e2
          have o2 := (C.oks.1.1 y (by omega)).1
          refine ⟨fun h => ((tk_m1 (by omega)).mp h).elim, fun _ => ⟨hin i (by omega), hin y (by omega), ?_⟩⟩
          show ((nI (st.1 (3 * i + 2)) ≤ I (x + 15) (nI y).toNatClampNeg → _) ∧ (¬ nI (st.1 (3 * i + 2)) ≤ I (x + 15) (nI y).toNatClampNeg → _))
          rw [e15 y (by omega), tk_le (by omega) (by omega)]
          simp only at e
          refine ⟨fun h => ?_, fun h => ?_⟩
          · rw [if_pos h] at e; exact e
          · rw [if_neg h] at e; exact e
  exact loop 9 0 (by omega)
theorem x_all_n (C : CIv G I R K n x m v w q nx lo M lk sq vl st tp lw sp ap sg B) (hp : ¬ 0 < vl.1 ∨ bad 13 p) : XC G (d + 2) mX11_all [.ref x, .int p] I J R K n x m (-1) vl st tp lw sp ap sg B := by
  intro Q hQ
  replace hQ := hQ I v w q nx lo M lk sq C (fun _ _ _ => rfl)
  refine zC.of (by decide) (Nat.le_of_ble_eq_true rfl) ?_
  refine wX11_all_0 x v w q C.X _ ?_
  by_cases hv : 0 < vl.1
  · have hb := hp.resolve_left (fun h => h hv)
    have hj : ∀ j : Nat, j < 13 → p ≠ nI j := fun j hj e => absurd hb (by rw [e]; exact bad_not (by omega) hj)
    refine c_hasV_y C hv ?_
    refine ⟨_, _, rfl, rfl, ?_⟩
    refine ⟨fun h => absurd h (by decide), fun _ => ⟨fun h0 => ⟨fun _ => ⟨fun h => absurd h (hj 6 (by omega)), fun h => absurd h (hj 7 (by omega)), fun h => absurd h (hj 8 (by omega)), fun h => absurd h (hj 9 (by omega)), fun h => absurd h (hj 10 (by omega)), fun h => absurd h (hj 11 (by omega)), fun h => absurd h (hj 12 (by omega)), fun _ _ _ _ _ _ _ => hQ⟩, fun h5 => ?_⟩, fun _ => hQ⟩⟩
    obtain ⟨k, hk, rfl⟩ : ∃ k : Nat, k < 6 ∧ p = nI k := by
      rw [Int32.le_iff_toInt_le] at h0
      rw [Int32.lt_iff_toInt_lt] at h5
      obtain ⟨k, hk, rfl, e⟩ := tk_nat (p := p) h0
      have : (5 : Int32).toInt = 5 := rfl
      exact ⟨k, by omega, rfl⟩
    exact absurd rfl (hj k (by omega))
  · refine c_hasV_n C hv ?_
    refine ⟨_, _, rfl, rfl, ?_⟩
    exact ⟨fun _ => hQ, fun h => absurd rfl h⟩
theorem x_all_y (C : CIv G I R K n x m v w q nx lo M lk sq vl st tp lw sp ap sg B) (hv : 0 < vl.1) {k : Nat} (hk : k < 13) : XC G (d + 5) mX11_all [.ref x, .int (nI k)] I J R K n x m (allA vl st.1 k) vl st tp lw sp ap sg B := by
  intro Q hQ
  replace hQ := hQ I v w q nx lo M lk sq C (fun _ _ _ => rfl)
  have h6 := C.okv.1.1
  refine zC.of (by decide) (Nat.le_of_ble_eq_true rfl) ?_
  refine wX11_all_0 x v w q C.X _ ?_
  refine c_hasV_y C hv ?_
  refine ⟨_, _, rfl, rfl, ?_⟩
  refine ⟨fun h => absurd h (by decide), fun _ => ⟨fun _ => ⟨fun h5 => ?_, fun h5 => ?_⟩, fun h => absurd ((tk_le (a := 0) (by omega) (by omega)).mpr (by omega)) h⟩⟩
  · rw [show (5 : Int32) = nI 5 from rfl, tk_lt (by omega) (by omega)] at h5
    have hc : k = 6 ∨ k = 7 ∨ k = 8 ∨ k = 9 ∨ k = 10 ∨ k = 11 ∨ k = 12 := by omega
    rcases hc with rfl | rfl | rfl | rfl | rfl | rfl | rfl
    · refine ⟨fun _ => ?_, fun h => absurd h (by decide), fun h => absurd h (by decide), fun h => absurd h (by decide), fun h => absurd h (by decide), fun h => absurd h (by decide), fun h => absurd h (by decide), fun h => absurd rfl h⟩
      refine c_heaviest C ?_
      refine ⟨_, _, rfl, rfl, ?_⟩
      exact hQ
    · refine ⟨fun h => absurd h (by decide), fun _ => ?_, fun h => absurd h (by decide), fun h => absurd h (by decide), fun h => absurd h (by decide), fun h => absurd h (by decide), fun h => absurd h (by decide), fun _ h => absurd rfl h⟩
      refine c_whites (X_5 C.X) C.cv.1 C.okv.1 C.cs C.oks.1 ?_
      refine ⟨_, _, rfl, rfl, ?_⟩
      exact hQ
    · refine ⟨fun h => absurd h (by decide), fun h => absurd h (by decide), fun _ => ?_, fun h => absurd h (by decide), fun h => absurd h (by decide), fun h => absurd h (by decide), fun h => absurd h (by decide), fun _ _ h => absurd rfl h⟩
      refine c_falseFarms (X_5 C.X) C.cv.1 C.okv.1 C.cs C.oks.1 ?_
      refine ⟨_, _, rfl, rfl, ?_⟩
      exact hQ
    · refine ⟨fun h => absurd h (by decide), fun h => absurd h (by decide), fun h => absurd h (by decide), fun _ => ?_, fun h => absurd h (by decide), fun h => absurd h (by decide), fun h => absurd h (by decide), fun _ _ _ h => absurd rfl h⟩
      refine c_opens (X_5 C.X) C.cs C.oks.1 ?_
      refine ⟨_, _, rfl, rfl, ?_⟩
      exact hQ
    · refine ⟨fun h => absurd h (by decide), fun h => absurd h (by decide), fun h => absurd h (by decide), fun h => absurd h (by decide), fun _ => ?_, fun h => absurd h (by decide), fun h => absurd h (by decide), fun _ _ _ _ h => absurd rfl h⟩
      refine c_bareInAll (X_5 C.X) C.cv.1 C.okv.1 C.cs C.oks.1 ?_
      refine ⟨_, _, rfl, rfl, ?_⟩
      have hs := sumA_le2 (bareA vl.2.1 st.1) 40 vl.1 (fun j hj => bareA_le C.okv.1 hj)
      have o := C.oks.1.2.2.2.2
      rw [C.cs.2.2.2.2.1]
      exact qI (tk_monus (by omega) (by omega)).symm hQ
    · refine ⟨fun h => absurd h (by decide), fun h => absurd h (by decide), fun h => absurd h (by decide), fun h => absurd h (by decide), fun h => absurd h (by decide), fun _ => ?_, fun h => absurd h (by decide), fun _ _ _ _ _ h => absurd rfl h⟩
      refine c_sum (St_8 (X_5 C.X)) (g := fun f => st.1 (27 + 3 * f)) (fun f hf => (C.cs.2.1 f hf).1) ?_
      refine ⟨_, _, rfl, rfl, ?_⟩
      rw [sumA_6 (g := fun f => st.1 (27 + 3 * f)) h6 (fun f a b => (C.oks.1.2.2.1 f a b).1)]
      exact hQ
    · refine ⟨fun h => absurd h (by decide), fun h => absurd h (by decide), fun h => absurd h (by decide), fun h => absurd h (by decide), fun h => absurd h (by decide), fun h => absurd h (by decide), fun _ => ?_, fun _ _ _ _ _ _ h => absurd rfl h⟩
      refine c_sum (St_10 (X_5 C.X)) (g := fun f => st.1 (28 + 3 * f)) (fun f hf => (C.cs.2.1 f hf).2.1) ?_
      refine ⟨_, _, rfl, rfl, ?_⟩
      rw [sumA_6 (g := fun f => st.1 (28 + 3 * f)) h6 (fun f a b => (C.oks.1.2.2.1 f a b).2)]
      exact hQ
  · rw [show (5 : Int32) = nI 5 from rfl, tk_lt (by omega) (by omega)] at h5
    unfold allA at hQ
    rw [if_pos (by omega)] at hQ
    refine c_foremost C hv (k := k) (by omega) ?_
    refine ⟨_, _, rfl, rfl, ?_⟩
    exact hQ
theorem c_valueOf (C : MIv G I J R K n m t c tl tt vl st tp lw sp ap sg B) {f k : Nat} (hf : f < vl.1) (hk : k < 6) (hQ : Q (some (.int (nI (mesA vl.2.1 st.1 k f)))) (I, J, R, K, n)) : zC G (d + 3) mX12_valueOf 0 0 [.ref m, .int (nI k), .int (nI f)] (I, J, R, K, n) Q := by
  have h6 := C.okv_.1.1
  refine zC.of (by decide) (Nat.le_of_ble_eq_true rfl) ?_
  refine wX12_valueOf_0 m t c C.S_ _ _ ?_
  have hc : k = 0 ∨ k = 1 ∨ k = 2 ∨ k = 3 ∨ k = 4 ∨ k = 5 := by omega
  have e2 : (2 * nI f : Int32) = nI (2 * f) := by rw [show (2 : Int32) = nI 2 from rfl, pk_mul]
  refine ⟨fun h => ?_, fun h => ?_, fun h => ?_, fun h => ?_, fun h0 h1 h2 h3 => ?_⟩
  · rw [show (0 : Int32) = nI 0 from rfl, tk_eq (by omega) (by omega)] at h
    subst h
    rw [show (27 + 3 * nI f + 0 : Int32) = nI (27 + 3 * f) by rw [show (27 : Int32) = nI 27 from rfl, show (3 : Int32) = nI 3 from rfl, show (0 : Int32) = nI 0 from rfl, pk_mul, nI_add, nI_add, Nat.add_zero], tk_c (by omega)]
    exact ⟨(tk_in (by omega) (by omega)).mpr (by omega), qI (C.mr _ (by omega)).symm hQ⟩
  · rw [show (1 : Int32) = nI 1 from rfl, tk_eq (by omega) (by omega)] at h
    subst h
    refine c_mbare C.S_ (Mod_26 C.S_) C.v_.1 C.okv_.1 C.mr C.oks_.1 hf ?_
    refine ⟨_, _, rfl, rfl, ?_⟩
    exact hQ
  · rw [show (2 : Int32) = nI 2 from rfl, tk_eq (by omega) (by omega)] at h
    subst h
    rw [e2, nI_1, tk_c (by omega)]
    exact ⟨(tk_in (by omega) (by omega)).mpr (by omega), qI (C.v_.1.2 f hf).2.symm hQ⟩
  · rw [show (3 : Int32) = nI 3 from rfl, tk_eq (by omega) (by omega)] at h
    subst h
    rw [e2, tk_c (by omega)]
    exact ⟨(tk_in (by omega) (by omega)).mpr (by omega), qI (C.v_.1.2 f hf).1.symm hQ⟩
  · rcases hc with rfl | rfl | rfl | rfl | rfl | rfl
    · exact absurd rfl h0
    · exact absurd rfl h1
    · exact absurd rfl h2
    · exact absurd rfl h3
    · rw [show (nI 4 - 4 : Int32) = nI 0 from rfl]
      refine c_openOf C.S_ C.mr C.oks_.1 C.okv_.1 (f := f) (k := 0) (by omega) (by omega) ?_
      refine ⟨_, _, rfl, rfl, ?_⟩
      refine c_bitCount (bits_9 _ (by omega)) ?_
      refine ⟨_, rfl, rfl, ?_⟩
      exact hQ
    · rw [show (nI 5 - 4 : Int32) = nI 1 from rfl]
      refine c_openOf C.S_ C.mr C.oks_.1 C.okv_.1 (f := f) (k := 1) (by omega) (by omega) ?_
      refine ⟨_, _, rfl, rfl, ?_⟩
      refine c_bitCount (bits_9 _ (by omega)) ?_
      refine ⟨_, rfl, rfl, ?_⟩
      exact hQ
theorem c_greatest (C : MIv G I J R K n m t c tl tt vl st tp lw sp ap sg B) (hv : 0 < vl.1) {k : Nat} (hk : k < 6) (hQ : Q (some (.int (nI (topA (mesA vl.2.1 st.1 k) vl.1)))) (I, J, R, K, n)) : zC G (d + 4) mX12_greatest 0 0 [.ref m, .int (nI k)] (I, J, R, K, n) Q := by
  have h6 := C.okv_.1.1
  refine zC.of (by decide) (Nat.le_of_ble_eq_true rfl) ?_
  refine wX12_greatest_0 m t c C.S_ _ ?_
  have loop : ∀ j i : Nat, i + j = vl.1 → 0 < i → zV G (d + 4) mX12_greatest 0 0 4 [(0, .ref m), (1, .int (nI k)), (2, .int (nI (topA (mesA vl.2.1 st.1 k) i))), (3, .int (nI i))] [] (I, J, R, K, n) Q := by
    intro j
    induction j with
    | zero =>
      intro i hi _
      obtain rfl : i = vl.1 := by omega
      refine wX12_greatest_4 m t c C.S_ _ _ _ ⟨fun _ => hQ, fun h => absurd ?_ h⟩
      rw [C.v_.1.1, tk_le (by omega) (by omega)]
      omega
    | succ j ih =>
      intro i hi h0
      have ht := topA_lt (g := mesA vl.2.1 st.1 k) h0
      refine wX12_greatest_4 m t c C.S_ _ _ _ ⟨fun h => ?_, fun _ => ?_⟩
      · rw [C.v_.1.1, tk_le (by omega) (by omega)] at h
        omega
      refine c_valueOf C (f := i) (by omega) hk ?_
      refine ⟨_, _, rfl, rfl, ?_⟩
      refine c_valueOf C (f := topA (mesA vl.2.1 st.1 k) i) (by omega) hk ?_
      refine ⟨_, _, rfl, rfl, ?_⟩
      have b1 := mesA_small (k := k) (f := i) C.okv_.1 C.oks_.1 (by omega)
      have b2 := mesA_small (k := k) (f := topA (mesA vl.2.1 st.1 k) i) C.okv_.1 C.oks_.1 (by omega)
      have e := ih (i + 1) (by omega) (by omega)
      rw [topA] at e
      rw [nI_1]
      by_cases h : mesA vl.2.1 st.1 k i ≤ mesA vl.2.1 st.1 k (topA (mesA vl.2.1 st.1 k) i)
      · rw [if_pos h] at e
        rw [if_pos ((tk_le (by omega) (by omega)).mpr h)]; exact e
      · rw [if_neg h] at e
        rw [if_neg (fun h2 => h ((tk_le (by omega) (by omega)).mp h2))]; exact e
  have h1 : topA (mesA vl.2.1 st.1 k) 1 = 0 := by have := topA_lt (g := mesA vl.2.1 st.1 k) (k := 1) (by omega); omega
  have := loop (vl.1 - 1) 1 (by omega) (by omega)
  rw [h1] at this
  exact this
theorem c_mheaviest (C : MIv G I J R K n m t c tl tt vl st tp lw sp ap sg B) (hQ : Q (some (.int (oI (heavN st.1 9)))) (I, J, R, K, n)) : zC G (d + 2) mX12_heaviest 0 0 [.ref m] (I, J, R, K, n) Q := by
  refine zC.of (by decide) (Nat.le_of_ble_eq_true rfl) ?_
  refine wX12_heaviest_0 m t c C.S_ ?_
  have loop : ∀ j i : Nat, i + j = 9 → zV G (d + 2) mX12_heaviest 0 0 4 [(0, .ref m), (1, .int (oI (heavN st.1 i))), (2, .int (nI i))] [] (I, J, R, K, n) Q := by
    intro j
    induction j with
    | zero =>
      intro i hi
      obtain rfl : i = 9 := by omega
      exact wX12_heaviest_4 m t c C.S_ _ _ ⟨fun _ => hQ, fun h => absurd (by decide) h⟩
    | succ j ih =>
      intro i hi
      have hi3 : ∀ y : Nat, (3 * nI y + 2 : Int32) = nI (3 * y + 2) := fun y => by rw [show (3 : Int32) = nI 3 from rfl, show (2 : Int32) = nI 2 from rfl, pk_mul, nI_add]
      have hin : ∀ y, y < 9 → vp_in (nI (3 * y + 2)) 231 := fun y hy => (tk_in (by omega) (by omega)).mpr (by omega)
      have e15 : ∀ y, y < 9 → I (m + 13) (nI (3 * y + 2)).toNatClampNeg = nI (st.1 (3 * y + 2)) := fun y hy => by rw [tk_c (by omega)]; exact C.mr _ (by omega)
      have o := (C.oks_.1.1 i (by omega)).1
      refine wX12_heaviest_4 m t c C.S_ _ _ ⟨fun h => ?_, fun _ => ?_⟩
      · rw [show (9 : Int32) = nI 9 from rfl, tk_le (by omega) (by omega)] at h
        omega
      have e := ih (i + 1) (by omega)
      rw [heavN] at e
      by_cases ho : 0 < st.1 (3 * i + 2)
      · refine c_mo_y (Mod_26 C.S_) C.mr C.oks_.1 (p := i) (by omega) ho ?_
        refine ⟨_, _, rfl, rfl, ?_⟩
        refine ⟨fun h => absurd h (by decide), fun _ => ?_⟩
        rw [if_neg (by omega)] at e
        rw [hi3, e15 i (by omega), nI_1]
        cases e2 : heavN st.1 i with
        | none =>
          rw [e2] at e
          exact ⟨fun _ => e, fun h => absurd rfl h⟩
        | some y =>
          rw [e2] at e
          have hy := heavN_lt e2
          have o2 := (C.oks_.1.1 y (by omega)).1
          refine ⟨fun h => ((tk_m1 (by omega)).mp h).elim, fun _ => ?_⟩
          show vp_in (nI (3 * i + 2)) 231 ∧ vp_in (3 * nI y + 2) 231 ∧ ((nI (st.1 (3 * i + 2)) ≤ I (m + 13) (3 * nI y + 2 : Int32).toNatClampNeg → _) ∧ (¬ nI (st.1 (3 * i + 2)) ≤ I (m + 13) (3 * nI y + 2 : Int32).toNatClampNeg → _))
          rw [hi3, e15 y (by omega), tk_le (by omega) (by omega)]
          simp only at e
          refine ⟨hin i (by omega), hin y (by omega), fun h => ?_, fun h => ?_⟩
          · rw [if_pos h] at e; exact e
          · rw [if_neg h] at e; exact e
      · refine c_mo_n (Mod_26 C.S_) C.mr (p := nI i) (Or.inr ⟨i, by omega, rfl, by omega⟩) ?_
        refine ⟨_, _, rfl, rfl, ?_⟩
        rw [if_pos (by omega)] at e
        rw [nI_1]
        exact ⟨fun _ => e, fun h => absurd rfl h⟩
  exact loop 9 0 (by omega)
theorem y_all_n (C : MIv G I J R K n m t c tl tt vl st tp lw sp ap sg B) (hp : ¬ 0 < vl.1 ∨ bad 13 p) : YC G (d + 1) mX12_all [.ref m, .int p] I J R K n m t c tl tt (-1) vl st tp lw sp ap sg B := by
  intro Q hQ
  obtain ⟨M1, f1⟩ := C.z0 (y := 0)
  replace hQ := hQ _ M1 f1
  refine zC.of (by decide) (Nat.le_of_ble_eq_true rfl) ?_
  refine wX12_all_0 m t c C.S_ _ ?_
  rintro _ rfl
  refine ⟨fun _ => hQ, fun h0 => ?_⟩
  rw [M1.v_.1.1] at h0
  have hb := hp.resolve_left (fun h => h0 (by rw [show vl.1 = 0 by omega]; rfl))
  have hj : ∀ j : Nat, j < 13 → p ≠ nI j := fun j hj e => absurd hb (by rw [e]; exact bad_not (by omega) hj)
  exact ⟨fun h => absurd h (hj 0 (by omega)), fun h => absurd h (hj 1 (by omega)), fun h => absurd h (hj 2 (by omega)), fun h => absurd h (hj 3 (by omega)), fun h => absurd h (hj 4 (by omega)), fun h => absurd h (hj 5 (by omega)), fun h => absurd h (hj 6 (by omega)), fun h => absurd h (hj 7 (by omega)), fun h => absurd h (hj 8 (by omega)), fun h => absurd h (hj 9 (by omega)), fun h => absurd h (hj 10 (by omega)), fun h => absurd h (hj 11 (by omega)), fun h => absurd h (hj 12 (by omega)), fun _ _ _ _ _ _ _ _ _ _ _ _ _ => hQ⟩
theorem y_all_y (C : MIv G I J R K n m t c tl tt vl st tp lw sp ap sg B) (hv : 0 < vl.1) {k : Nat} (hk : k < 13) : YC G (d + 5) mX12_all [.ref m, .int (nI k)] I J R K n m t c tl tt (allA vl st.1 k) vl st tp lw sp ap sg B := by
  intro Q hQ
  have h6 := C.okv_.1.1
  obtain ⟨M1, f1⟩ := C.z0 (y := 0)
  replace hQ := hQ _ M1 f1
  refine zC.of (by decide) (Nat.le_of_ble_eq_true rfl) ?_
  refine wX12_all_0 m t c C.S_ _ ?_
  rintro _ rfl
  have ne : ∀ a : Nat, a < 13 → a ≠ k → ∀ {P : Prop}, nI k = nI a → P := fun a ha hne P h => absurd ((tk_eq (by omega) (by omega)).mp h).symm hne
  have gr : k < 6 → zC G (d + 4) mX12_greatest 0 0 [.ref m, .int (nI k)] (zU I m 0 0, J, R, K, n) (fun r h => ∃ (x4 : Int32) (I5 : Nat → Nat → Int32), r = some (.int x4) ∧ h = (I5, J, R, K, n) ∧ Q (some (.int x4)) (I5, J, R, K, n)) := by
    intro h5
    unfold allA at hQ
    rw [if_pos (by omega)] at hQ
    refine c_greatest M1 hv h5 ?_
    refine ⟨_, _, rfl, rfl, ?_⟩
    exact hQ
  refine ⟨fun h => ?_, fun _ => ⟨fun h => ?_, fun h => ?_, fun h => ?_, fun h => ?_, fun h => ?_, fun h => ?_, fun h => ?_, fun h => ?_, fun h => ?_, fun h => ?_, fun h => ?_, fun h => ?_, fun h => ?_, fun h0 h1 h2 h3 h4 h5 h6 h7 h8 h9 h10 h11 h12 => ?_⟩⟩
  · rw [M1.v_.1.1, show (0 : Int32) = nI 0 from rfl, tk_eq (by omega) (by omega)] at h
    omega
  · exact gr (by rw [show (0 : Int32) = nI 0 from rfl, tk_eq (by omega) (by omega)] at h; omega)
  · exact gr (by rw [show (1 : Int32) = nI 1 from rfl, tk_eq (by omega) (by omega)] at h; omega)
  · exact gr (by rw [show (2 : Int32) = nI 2 from rfl, tk_eq (by omega) (by omega)] at h; omega)
  · exact gr (by rw [show (3 : Int32) = nI 3 from rfl, tk_eq (by omega) (by omega)] at h; omega)
  · exact gr (by rw [show (4 : Int32) = nI 4 from rfl, tk_eq (by omega) (by omega)] at h; omega)
  · exact gr (by rw [show (5 : Int32) = nI 5 from rfl, tk_eq (by omega) (by omega)] at h; omega)
  · rw [show (6 : Int32) = nI 6 from rfl, tk_eq (by omega) (by omega)] at h
    subst h
    refine c_mheaviest M1 ?_
    refine ⟨_, _, rfl, rfl, ?_⟩
    exact hQ
  · rw [show (7 : Int32) = nI 7 from rfl, tk_eq (by omega) (by omega)] at h
    subst h
    refine c_mwhites M1.S_ (Mod_26 M1.S_) M1.v_.1 M1.okv_.1 M1.mr M1.oks_.1 ?_
    refine ⟨_, _, rfl, rfl, ?_⟩
    exact hQ
  · rw [show (8 : Int32) = nI 8 from rfl, tk_eq (by omega) (by omega)] at h
    subst h
    refine c_mfalses M1.S_ M1.v_.1 M1.okv_.1 M1.mr M1.oks_.1 ?_
    refine ⟨_, _, rfl, rfl, ?_⟩
    exact hQ
  · rw [show (9 : Int32) = nI 9 from rfl, tk_eq (by omega) (by omega)] at h
    subst h
    refine c_mopens M1.S_ M1.mr M1.oks_.1 M1.okv_.1 (k := 0) ?_
    refine ⟨_, _, rfl, rfl, ?_⟩
    exact hQ
  · rw [show (10 : Int32) = nI 10 from rfl, tk_eq (by omega) (by omega)] at h
    subst h
    refine c_mneed M1.S_ M1.v_.1 M1.okv_.1 M1.mr M1.oks_.1 ?_
    refine ⟨_, _, rfl, rfl, ?_⟩
    exact hQ
  · rw [show (11 : Int32) = nI 11 from rfl, tk_eq (by omega) (by omega)] at h
    subst h
    refine c_msum M1.S_ M1.v_.1 M1.okv_.1 M1.mr (w := 0) (by omega) ?_
    refine ⟨_, _, rfl, rfl, ?_⟩
    exact hQ
  · rw [show (12 : Int32) = nI 12 from rfl, tk_eq (by omega) (by omega)] at h
    subst h
    refine c_msum M1.S_ M1.v_.1 M1.okv_.1 M1.mr (w := 1) (by omega) ?_
    refine ⟨_, _, rfl, rfl, ?_⟩
    exact hQ
  · have hc : k = 0 ∨ k = 1 ∨ k = 2 ∨ k = 3 ∨ k = 4 ∨ k = 5 ∨ k = 6 ∨ k = 7 ∨ k = 8 ∨ k = 9 ∨ k = 10 ∨ k = 11 ∨ k = 12 := by omega
    rcases hc with rfl | rfl | rfl | rfl | rfl | rfl | rfl | rfl | rfl | rfl | rfl | rfl | rfl
    · exact absurd rfl h0
    · exact absurd rfl h1
    · exact absurd rfl h2
    · exact absurd rfl h3
    · exact absurd rfl h4
    · exact absurd rfl h5
    · exact absurd rfl h6
    · exact absurd rfl h7
    · exact absurd rfl h8
    · exact absurd rfl h9
    · exact absurd rfl h10
    · exact absurd rfl h11
    · exact absurd rfl h12
end
