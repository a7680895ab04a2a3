/-! THE FACE: pairs: the class -/
def prU (b : Option (Nat × Nat)) (r s : Nat) : Option (Nat × Nat) := match b with
  | none => some (r, s)
  | some z => if z.2 < s then some (r, s) else some z
def prG (h : Nat → Option (Nat × Nat) → Option (Nat × Nat)) (c : Nat → Bool) : Nat → Nat → Option (Nat × Nat) → Option (Nat × Nat)
  | 0, _, b => b
  | j + 1, i, b => prG h c j (i + 1) (if c i = true then h i b else b)
/-- may p be forgiven to f beside these painters -/
def prB (T : Nat → Nat) (f u p : Nat) : Bool := decide (0 < T (3 * p + 2) ∧ T (3 * p + 1) = f ∧ u.testBit (T (3 * p)) = false)
/-- the best of the rows, in their order -/
def prF (g T : Nat → Nat) : Nat → Nat → Nat → Nat → Nat → Option (Nat × Nat) → Option (Nat × Nat)
  | 0, _, r, _, s, b => prU b r s
  | k + 1, f, r, u, s, b => prF g T k (f + 1) (10 * r + 9) u s (prG (fun p b => prF g T k (f + 1) (10 * r + p) (u ||| 2 ^ T (3 * p)) (s + g p) b) (prB T f u) 9 0 b)
theorem prF_some {g T : Nat → Nat} : ∀ {k f r u s : Nat} {b : Option (Nat × Nat)}, prF g T k f r u s b ≠ none
  | 0, f, r, u, s, b => by
    rw [prF]
    cases b with
    | none => exact fun h => by injection h
    | some z =>
      show (if z.2 < s then some (r, s) else some z) ≠ none
      split
      · exact fun h => by injection h
      · exact fun h => by injection h
  | k + 1, f, r, u, s, b => by
    rw [prF]
    exact prF_some
def prA (k : Nat) : Option (Nat × Nat) → Int32
  | none => -1
  | some z => if k = 0 then nI z.1 else nI z.2
/-- the cells of the best -/
def prC (z y0 y2 : Int32) (b : Option (Nat × Nat)) : Prop := (b = none ∧ y0 = -1 ∧ y2 = z) ∨ ∃ r s, b = some (r, s) ∧ r < 1000000 ∧ s ≤ 9000 ∧ y0 = nI r ∧ y2 = nI s
theorem nm1 {a : Nat} (h : a < 2147483648) : ¬ nI a ≤ -1 := by
  rw [Int32.le_iff_toInt_le, nI_toInt (by omega)]
  have h2 : ((-1 : Int32)).toInt = -1 := by decide
  rw [h2]
  omega
theorem and_pow {a k : Nat} : a &&& 2 ^ k = 0 ↔ a.testBit k = false := by
  constructor
  · intro h
    have e : (a &&& 2 ^ k).testBit k = false := by rw [h, Nat.zero_testBit]
    rw [Nat.testBit_and, Nat.testBit_two_pow, decide_eq_true rfl, Bool.and_true] at e
    exact e
  · intro h
    apply Nat.eq_of_testBit_eq
    intro i
    rw [Nat.testBit_and, Nat.testBit_two_pow, Nat.zero_testBit]
    by_cases e : k = i
    · subst e
      rw [h]
      rfl
    · rw [decide_eq_false e, Bool.and_false]
/-- what a wrong is worth now, if it is there -/
def worP (vl : Vt) (st : Stt) (lw : Lwt) (p : Nat) : Nat := if 0 < st.1 (3 * p + 2) then yardsA (aW lw) vl.2.1 st.1 p else 0
section
variable {G : zG} {d : Nat} {I : Nat → Nat → Int32} {J : Nat → Nat → Int64} {R : Nat → Nat → Option Nat} {K : Nat → Nat × Nat} {n : Nat} {x m v w q nx lo M t c : Nat} {lk sq : Nat → Nat} {tl : Nat → Nat} {tt : Nat → Nat → Nat} {vl : Vt} {st : Stt} {tp : Tpt} {lw : Lwt} {sp : Spt} {ap : Nat} {sg : Sgt} {B B1 : Nat} {p p1 p2 : Int32} {T : Nat → Nat} {I1 : Nat → Nat → Int32} {Q : Option Value → zH → Prop}
theorem c_pairC (C : CIv G I R K n x m v w q nx lo M lk sq vl st tp lw sp ap sg B) (h1 : ∀ b k, ¬ scr x w q nx lk lw.1 b k → I1 b k = I b k) (cs : CS I1 (x + 20) st.1) {g : Nat → Nat} (hg : ∀ p, p < 9 → g p ≤ 1000 ∧ I1 (x + 81) p = nI (g p)) : ∀ (k f r u s : Nat) (b : Option (Nat × Nat)) (I2 : Nat → Nat → Int32) (Q : Option Value → zH → Prop), f + k = vl.1 → r < 10 ^ f → s ≤ 1000 * f → u < 64 → (∀ b, b ≠ x + 80 → I2 b = I1 b) → prC (-1) (I2 (x + 80) 0) (I2 (x + 80) 2) b → (∀ I', (∀ b, b ≠ x + 80 → I' b = I1 b) → prC (-1) (I' (x + 80) 0) (I' (x + 80) 2) (prF g st.1 k f r u s b) → Q none (I', J, R, K, n)) → zC G (d + k + 2) mX4_tryPairs 0 0 [.ref (x + 80), .int (nI f), .int (nI r), .int (nI u), .int (nI s)] (I2, J, R, K, n) Q := by
  have h6 := C.okv.1.1
  intro k
  induction k with
  | zero =>
    intro f r u s b I2 Q hf hr hs hu h2 hb hQ
    have h3 : ∀ b k, ¬ scr x w q nx lk lw.1 b k → I2 b k = I b k := fun b y hb => by rw [h2 b (fun e => hb (by unfold scr; omega))]; exact h1 b y hb
    have C2 := C.same h3
    have r6 : r < 1000000 := Nat.lt_of_lt_of_le hr (Nat.pow_le_pow_right (n := 10) (j := 6) (by decide) (by omega))
    refine zC.of (by decide) (Nat.le_of_ble_eq_true rfl) ?_
    refine wX4_tryPairs_0 (x + 80) (x + 20) (x + 3) v (X_11 C.X) _ _ _ _ ?_
    rw [C2.cv.1.1, tk_lt (by omega) (by omega)]
    refine ⟨fun h => absurd h (by omega), fun _ => ?_⟩
    have put : ∀ I5 I6 : Nat → Nat → Int32, I5 = zU I2 (x + 80) 0 (nI r) → I6 = zU I5 (x + 80) 2 (nI s) → prU b r s = some (r, s) → Q none (I6, J, R, K, n) := by
      intro I5 I6 q5 q6 e
      refine hQ I6 (fun b hb => by rw [q6, zU_off hb, q5, zU_off hb, h2 b hb]) ?_
      rw [prF, e]
      exact Or.inr ⟨r, s, rfl, r6, by omega, by rw [q6, zU_ne (by omega), q5, zU_self], by rw [q6, zU_self]⟩
    rcases hb with ⟨rfl, e0, e2⟩ | ⟨r0, s0, rfl, hr0, hs0, e0, e2⟩
    · rw [e2]
      exact ⟨fun h => absurd h (nm1 (by omega)), fun _ I5 q5 I6 q6 => put I5 I6 q5 q6 rfl⟩
    · rw [e2, tk_le (by omega) (by omega)]
      refine ⟨fun h => hQ I2 h2 ?_, fun h I5 q5 I6 q6 => put I5 I6 q5 q6 (if_pos (show s0 < s by omega))⟩
      rw [prF, show prU (some (r0, s0)) r s = some (r0, s0) from if_neg (show ¬ s0 < s by omega)]
      exact Or.inr ⟨r0, s0, rfl, hr0, hs0, e0, e2⟩
  | succ k ih =>
    intro f r u s b I2 Q hf hr hs hu h2 hb hQ
    have fr : ∀ (I3 : Nat → Nat → Int32), (∀ b, b ≠ x + 80 → I3 b = I1 b) → CIv G I3 R K n x m v w q nx lo M lk sq vl st tp lw sp ap sg B ∧ CS I3 (x + 20) st.1 := fun I3 h3 => ⟨C.same (fun b y hb => by rw [h3 b (fun e => hb (by unfold scr; omega))]; exact h1 b y hb), cs.same (fun b b1 b2 => h3 b (by omega))⟩
    have pw := Nat.pow_succ (n := 10) (m := f)
    have loop : ∀ (j i : Nat) (b : Option (Nat × Nat)) (I3 : Nat → Nat → Int32), i + j = 9 → (∀ b, b ≠ x + 80 → I3 b = I1 b) → prC (-1) (I3 (x + 80) 0) (I3 (x + 80) 2) b → (∀ I', (∀ b, b ≠ x + 80 → I' b = I1 b) → prC (-1) (I' (x + 80) 0) (I' (x + 80) 2) (prF g st.1 k (f + 1) (10 * r + 9) u s (prG (fun p b => prF g st.1 k (f + 1) (10 * r + p) (u ||| 2 ^ st.1 (3 * p)) (s + g p) b) (prB st.1 f u) j i b)) → Q none (I', J, R, K, n)) → zV G (d + (k + 1) + 2) mX4_tryPairs 0 0 51 [(0, .ref (x + 80)), (1, .int (nI f)), (2, .int (nI r)), (3, .int (nI u)), (4, .int (nI s)), (5, .int (nI (toA st.1 f))), (6, .int (nI i))] [] (I3, J, R, K, n) Q := by
      intro j
      induction j with
      | zero =>
        intro i b I3 hi h3 hb hQ
        obtain rfl : i = 9 := by omega
        refine wX4_tryPairs_51 (x + 80) (x + 20) (x + 3) v (X_11 C.X) _ _ _ _ _ _ ⟨fun _ => ?_, fun h => absurd (by decide) h⟩
        rw [show (10 * nI r + 9 : Int32) = nI (10 * r + 9) by rw [show (10 : Int32) = nI 10 from rfl, show (9 : Int32) = nI 9 from rfl, pk_mul, nI_add], nI_1]
        refine ih (f + 1) (10 * r + 9) u s b I3 _ (by omega) (by omega) (by omega) hu h3 hb ?_
        intro I4 h4 hb4
        exact ⟨_, rfl, rfl, hQ I4 h4 hb4⟩
      | succ j ihj =>
        intro i b I3 hi h3 hb hQ
        obtain ⟨C3, cs3⟩ := fr I3 h3
        have hbit : (toA st.1 f).testBit i = true ↔ (0 < st.1 (3 * i + 2) ∧ st.1 (3 * i + 1) = f) := by
          unfold toA
          rw [bitsA_bit, decide_eq_true (show i < 9 by omega), openA]
          simp
        have b1 : toA st.1 f < 512 := bits_9 _ (by omega)
        have ini : vp_in (nI i) 9 := (tk_in (by omega) (by omega)).mpr (by omega)
        rw [prG] at hQ
        refine wX4_tryPairs_51 (x + 80) (x + 20) (x + 3) v (X_11 C.X) _ _ _ _ _ _ ⟨fun h => ?_, fun _ => ⟨ini, ?_⟩⟩
        · rw [show (9 : Int32) = nI 9 from rfl, tk_le (by omega) (by omega)] at h
          omega
        rw [tk_bit (by omega) (by omega), hbit, nI_1, nI_1, tk_c (by omega)]
        refine ⟨fun hd => ?_, fun hd => ?_⟩
        · have ew : I3 (x + 20 + 1) i = nI (st.1 (3 * i)) := ((cs3.1 i (by omega)).2 hd.1).1
          obtain ⟨o1, o2, -⟩ := (C.oks.1.1 i (by omega)).2 hd.1
          rw [ew, tk_shl _ (by omega), tk_and, show (0 : Int32) = nI 0 from rfl, tk_eq (Nat.lt_of_le_of_lt Nat.and_le_left (by omega)) (by omega), and_pow]
          refine ⟨fun hn => ⟨ini, ?_⟩, fun hn => ?_⟩
          · have hc : prB st.1 f u i = true := decide_eq_true ⟨hd.1, hd.2, hn⟩
            rw [if_pos hc] at hQ
            have g9 := hg i (by omega)
            have eg : I3 (x + 80 + 1) i = nI (g i) := by rw [show x + 80 + 1 = x + 81 by omega, h3 _ (by omega)]; exact g9.2
            rw [eg, tk_or, nI_add, show (10 * nI r + nI i : Int32) = nI (10 * r + i) by rw [show (10 : Int32) = nI 10 from rfl, pk_mul, nI_add]]
            refine ih (f + 1) (10 * r + i) (u ||| 2 ^ st.1 (3 * i)) (s + g i) b I3 _ (by omega) (by omega) (by omega) ?_ h3 hb ?_
            · exact Nat.or_lt_two_pow (n := 6) hu (Nat.pow_lt_pow_right (by decide) (by omega))
            intro I4 h4 hb4
            refine ⟨_, rfl, rfl, ?_⟩
            exact ihj (i + 1) _ I4 (by omega) h4 hb4 hQ
          · have hc : ¬ prB st.1 f u i = true := by
              unfold prB
              rw [decide_eq_true_iff]
              exact fun h => hn h.2.2
            rw [if_neg hc] at hQ
            exact ihj (i + 1) b I3 (by omega) h3 hb hQ
        · have hc : ¬ prB st.1 f u i = true := by
            unfold prB
            rw [decide_eq_true_iff]
            exact fun h => hd ⟨h.1, h.2.1⟩
          rw [if_neg hc] at hQ
          exact ihj (i + 1) b I3 (by omega) h3 hb hQ
    obtain ⟨C2, cs2⟩ := fr I2 h2
    refine zC.of (by decide) (Nat.le_of_ble_eq_true rfl) ?_
    refine wX4_tryPairs_0 (x + 80) (x + 20) (x + 3) v (X_11 C.X) _ _ _ _ ?_
    rw [C2.cv.1.1, tk_lt (by omega) (by omega)]
    refine ⟨fun _ => ?_, fun h => absurd (show f < vl.1 by omega) h⟩
    refine c_doneTo (X_7 C.X) C.okv.1 cs2 C.oks.1 (f := f) (by omega) ?_
    refine ⟨_, _, rfl, rfl, ?_⟩
    rw [prF] at hQ
    exact loop 9 0 b I2 (by omega) h2 hb hQ
theorem worP_le (C : CIv G I R K n x m v w q nx lo M lk sq vl st tp lw sp ap sg B) (p : Nat) : worP vl st lw p ≤ 1000 := by
  unfold worP
  split
  · have := (yardsA_le (Wc := aW lw) (Y := vl.2.1) (T := st.1) (p := p)).2
    have o := C.oks.1.2.2.2.2.2.2.1
    omega
  · omega
theorem c_pairUp (C : CIv G I R K n x m v w q nx lo M lk sq vl st tp lw sp ap sg B) {I2 : Nat → Nat → Int32} (h2 : ∀ b k, ¬ scr x w q nx lk lw.1 b k → I2 b k = I b k) (cs : CS I2 (x + 20) st.1) (hQ : ∀ I', (∀ b k, ¬ scr x w q nx lk lw.1 b k → I' b k = I b k) → prC (-1) (I' (x + 80) 0) (I' (x + 80) 2) (prF (worP vl st lw) st.1 vl.1 0 0 0 0 none) → Q none (I', J, R, K, n)) : zC G (d + 9) mX4_pairUp 0 0 [.ref (x + 80)] (I2, J, R, K, n) Q := by
  have h6 := C.okv.1.1
  refine zC.of (by decide) (Nat.le_of_ble_eq_true rfl) ?_
  refine wX4_pairUp_0 (x + 80) (x + 20) (x + 3) v (X_11 C.X) ?_
  have loop : ∀ (j i : Nat) (I3 : Nat → Nat → Int32), i + j = 9 → (∀ b k, ¬ scr x w q nx lk lw.1 b k → I3 b k = I b k) → CS I3 (x + 20) st.1 → (∀ p, p < i → I3 (x + 81) p = nI (worP vl st lw p)) → zV G (d + 9) mX4_pairUp 0 0 2 [(0, .ref (x + 80)), (1, .int (nI i))] [] (I3, J, R, K, n) Q := by
    intro j
    induction j with
    | zero =>
      intro i I3 hi h3 cs3 hw
      obtain rfl : i = 9 := by omega
      refine wX4_pairUp_2 (x + 80) (x + 20) (x + 3) v (X_11 C.X) _ ⟨fun _ => ?_, fun h => absurd (by decide) h⟩
      intro I4 q4 I5 q5
      have h5 : ∀ b k, ¬ scr x w q nx lk lw.1 b k → I5 b k = I b k := fun b y hb => by
        have ne : ¬ b = x + 80 := fun e => hb (by unfold scr; omega)
        rw [q5, zU_off ne, q4, zU_off ne]
        exact h3 b y hb
      have cs5 : CS I5 (x + 20) st.1 := cs3.same (fun b b1 b2 => by rw [q5, zU_off (by omega), q4, zU_off (by omega)])
      have hg : ∀ p, p < 9 → worP vl st lw p ≤ 1000 ∧ I5 (x + 81) p = nI (worP vl st lw p) := fun p hp => ⟨worP_le C p, by rw [q5, zU_off (by omega), q4, zU_off (by omega)]; exact hw p hp⟩
      obtain ⟨D, hD⟩ : ∃ D, d + 8 = D + vl.1 + 2 := ⟨d + 6 - vl.1, by omega⟩
      rw [hD]
      refine c_pairC C h5 cs5 hg vl.1 0 0 0 0 none I5 _ (by omega) (by decide) (by omega) (by omega) (fun _ _ => rfl) (Or.inl ⟨rfl, by rw [q5, zU_ne (by omega), q4, zU_self], by rw [q5, zU_self]⟩) ?_
      intro I' h' hb'
      exact ⟨_, rfl, rfl, hQ I' (fun b y hb => by rw [h' b (fun e => hb (by unfold scr; omega))]; exact h5 b y hb) hb'⟩
    | succ j ih =>
      intro i I3 hi h3 cs3 hw
      have C3 := C.same h3
      have ini : vp_in (nI i) 9 := (tk_in (by omega) (by omega)).mpr (by omega)
      have put : ∀ I4 I5 : Nat → Nat → Int32, (∀ b k, ¬ scr x w q nx lk lw.1 b k → I4 b k = I b k) → CS I4 (x + 20) st.1 → I4 (x + 81) = I3 (x + 81) → I5 = zU I4 (x + 80 + 1) (nI i).toNatClampNeg (nI (worP vl st lw i)) → zV G (d + 9) mX4_pairUp 0 0 2 [(0, .ref (x + 80)), (1, .int (nI (i + 1)))] [] (I5, J, R, K, n) Q := by
        intro I4 I5 h4 cs4 k4 q5
        rw [tk_c (by omega), show x + 80 + 1 = x + 81 by omega] at q5
        refine ih (i + 1) I5 (by omega) (fun b y hb => ?_) (cs4.same (fun b b1 b2 => by rw [q5, zU_off (by omega)])) (fun p hp => ?_)
        · rw [q5, zU_off (fun e => hb (by unfold scr; omega))]
          exact h4 b y hb
        · rw [q5]
          by_cases e : p = i
          · rw [e, zU_self]
          · rw [zU_ne (by omega), k4]
            exact hw p (by omega)
      refine wX4_pairUp_2 (x + 80) (x + 20) (x + 3) v (X_11 C.X) _ ⟨fun h => ?_, fun _ => ?_⟩
      · rw [show (9 : Int32) = nI 9 from rfl, tk_le (by omega) (by omega)] at h
        omega
      rw [nI_1]
      by_cases ho : 0 < st.1 (3 * i + 2)
      · refine c_isOpen_y (X_7 C.X) cs3 C.oks.1 (p := i) (by omega) ho ?_
        refine ⟨_, _, rfl, rfl, ?_⟩
        refine ⟨fun h => absurd h (by decide), fun _ => ?_⟩
        refine c_yardsOf (X_7 C.X) C3.g2 C3.cv.1 C.okv.1 cs3 C.oks.1 C3.lwh (p := i) (by omega) ho ?_
        intro I4 F4
        refine ⟨_, _, rfl, rfl, ini, ?_⟩
        intro I5 q5
        refine put I4 I5 (fun b y hb => by rw [C3.fr F4 (fun h => h) hb]; exact h3 b y hb) (cs3.same (fun b b1 b2 => F4.low C3.lwh (fun h => h) (by omega) (by omega))) (F4.low C3.lwh (fun h => h) (by omega) (by omega)) ?_
        rw [q5]
        unfold worP
        rw [if_pos ho]
      · refine c_isOpen_n (X_7 C.X) cs3 C.oks.1 (p := nI i) (Or.inr ⟨i, by omega, rfl, by omega⟩) ?_
        refine ⟨_, _, rfl, rfl, ?_⟩
        refine ⟨fun _ => ⟨ini, ?_⟩, fun h => absurd rfl h⟩
        intro I5 q5
        refine put I3 I5 h3 cs3 rfl ?_
        rw [q5]
        unfold worP
        rw [if_neg ho]
        rfl
  exact loop 9 0 I2 (by omega) h2 cs (fun p hp => absurd hp (by omega))
theorem x_pairs_y (C : CIv G I R K n x m v w q nx lo M lk sq vl st tp lw sp ap sg B) {k : Nat} (hv : 0 < vl.1) (hk : k < 2) : XC G (d + 10) mX11_pairs [.ref x, .int (nI k)] I J R K n x m (prA k (prF (worP vl st lw) st.1 vl.1 0 0 0 0 none)) vl st tp lw sp ap sg B := by
  intro Q hQ
  have h6 := C.okv.1.1
  refine zC.of (by decide) (Nat.le_of_ble_eq_true rfl) ?_
  refine wX11_pairs_0 x v w q C.X _ ?_
  refine c_hasV_y C hv ?_
  refine ⟨_, _, rfl, rfl, ?_⟩
  refine ⟨fun h => absurd h (by decide), fun _ => ⟨fun h => absurd h (nI_pos (by omega)), fun _ => ⟨fun _ => ?_, fun h => absurd ((tk_le (b := 1) (by omega) (by omega)).mpr (by omega)) h⟩⟩⟩
  refine c_copyFrom (X_7 C.X) (X_5 C.X) C.cs (by omega) ?_
  intro I2 cs2 f2
  refine ⟨_, rfl, rfl, ?_⟩
  have h2 : ∀ b k, ¬ scr x w q nx lk lw.1 b k → I2 b k = I b k := fun b k hb => by rw [f2 b (fun h => hb (by unfold scr; omega))]
  refine c_pairUp C h2 cs2 ?_
  intro I' h' e
  refine ⟨_, rfl, rfl, qI ?_ (hQ I' v w q nx lo M lk sq (C.same h') (C.mid h'))⟩
  rcases e with ⟨e, -⟩ | ⟨r, s, e, -, -, e0, e2⟩
  · exact absurd e prF_some
  rw [e, e0, e2]
  by_cases h : k = 0
  · rw [if_pos (by rw [h]; rfl)]
    exact if_pos h
  · rw [if_neg (show ¬ nI k = (0 : Int32) from fun h2 => h ((tk_eq (b := 0) (by omega) (by omega)).mp h2))]
    exact if_neg h
theorem x_pairs_n (C : CIv G I R K n x m v w q nx lo M lk sq vl st tp lw sp ap sg B) (hn : ¬ (0 < vl.1 ∧ ∃ k : Nat, k < 2 ∧ p1 = nI k)) : XC G (d + 3) mX11_pairs [.ref x, .int p1] I J R K n x m (-1) vl st tp lw sp ap sg B := by
  intro Q hQ
  replace hQ := hQ I v w q nx lo M lk sq C (fun _ _ _ => rfl)
  have h6 := C.okv.1.1
  refine zC.of (by decide) (Nat.le_of_ble_eq_true rfl) ?_
  refine wX11_pairs_0 x v w q C.X _ ?_
  by_cases hv : 0 < vl.1
  · refine c_hasV_y C hv ?_
    refine ⟨_, _, rfl, rfl, ?_⟩
    refine ⟨fun h => absurd h (by decide), fun _ => ⟨fun _ => hQ, fun h1 => ⟨fun h2 => ?_, fun _ => hQ⟩⟩⟩
    obtain ⟨c, hc, rfl⟩ := in3 (N := 1) (by decide) h1 h2
    exact absurd ⟨hv, c, hc, rfl⟩ hn
  · refine c_hasV_n C hv ?_
    refine ⟨_, _, rfl, rfl, ?_⟩
    exact ⟨fun _ => hQ, fun h => absurd rfl h⟩
end
