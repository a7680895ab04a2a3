/-! WHAT THE CELLS SAY: a village of nf farms (Y: yards at 2 f, grudge at 2 f + 1); a state's row T: 3 p who, 3 p + 1 whom, 3 p + 2 heavy, 27 + 3 f true, 28 + 3 f false, 29 + 3 f forgiven, 45 forgiven in all, 46 brown, 47 lime, 48 coins, 49 day. -/
def bareA (Y T : Nat → Nat) (f : Nat) : Nat := Y (2 * f) - (T (27 + 3 * f) + T (28 + 3 * f))
def openA (T : Nat → Nat) (p : Nat) : Bool := decide (0 < T (3 * p + 2))
def whitesA (nf : Nat) (Y T : Nat → Nat) : Nat := bitsA (fun f => decide (bareA Y T f = 0)) nf
def falsesA (nf : Nat) (T : Nat → Nat) : Nat := bitsA (fun f => decide (0 < T (28 + 3 * f))) nf
def opensA (T : Nat → Nat) : Nat := bitsA (fun p => openA T p) 9
def byA (T : Nat → Nat) (f : Nat) : Nat := bitsA (fun p => openA T p && decide (T (3 * p) = f)) 9
def toA (T : Nat → Nat) (f : Nat) : Nat := bitsA (fun p => openA T p && decide (T (3 * p + 1) = f)) 9
def sumA (g : Nat → Nat) : Nat → Nat
  | 0 => 0
  | k + 1 => sumA g k + g k
/-- farms that one open wrong leads to from a set -/
def reachA (T : Nat → Nat) (set : Nat) : Nat → Nat
  | 0 => 0
  | k + 1 => reachA T set k ||| (if openA T k && set.testBit (T (3 * k)) then 2 ^ T (3 * k + 1) else 0)
def okV (nf : Nat) (Y : Nat → Nat) : Prop := nf ≤ 6 ∧ ∀ f, f < nf → 1 ≤ Y (2 * f) ∧ Y (2 * f) ≤ 40 ∧ Y (2 * f + 1) ≤ 9
/-- a row that can be; B: the most that a farm was forgiven -/
def okT (B nf : Nat) (Y T : Nat → Nat) : Prop :=
  (∀ p, p < 9 → T (3 * p + 2) ≤ 9 ∧ (0 < T (3 * p + 2) → T (3 * p) < nf ∧ T (3 * p + 1) < nf ∧ T (3 * p) ≠ T (3 * p + 1))) ∧
  (∀ f, f < nf → T (27 + 3 * f) + T (28 + 3 * f) ≤ Y (2 * f)) ∧ (∀ f, f < 6 → nf ≤ f → T (27 + 3 * f) = 0 ∧ T (28 + 3 * f) = 0) ∧ (∀ f, f < 6 → T (29 + 3 * f) ≤ B) ∧
  T 45 ≤ 999 ∧ T 46 ≤ 9999 ∧ T 47 ≤ 999 ∧ T 48 ≤ 999 ∧ T 49 ≤ 1200 ∧ B < 100000
/-- the class's village -/
def VL (I : Nat → Nat → Int32) (v nf : Nat) (Y : Nat → Nat) : Prop := I v 5 = nI nf ∧ ∀ f, f < nf → I (v + 1) f = nI (Y (2 * f)) ∧ I (v + 2) f = nI (Y (2 * f + 1))
/-- the class's state -/
def CS (I : Nat → Nat → Int32) (a : Nat) (T : Nat → Nat) : Prop :=
  (∀ p, p < 9 → I (a + 3) p = nI (T (3 * p + 2)) ∧ (0 < T (3 * p + 2) → I (a + 1) p = nI (T (3 * p)) ∧ I (a + 2) p = nI (T (3 * p + 1)))) ∧
  (∀ f, f < 6 → I (a + 4) f = nI (T (27 + 3 * f)) ∧ I (a + 5) f = nI (T (28 + 3 * f)) ∧ I (a + 6) f = nI (T (29 + 3 * f))) ∧
  I a 6 = nI (T 45) ∧ I a 7 = nI (T 46) ∧ I a 8 = nI (T 47) ∧ I a 9 = nI (T 48) ∧ I a 10 = nI (T 49)
/-- the model's village and a row of its -/
def VM (I : Nat → Nat → Int32) (m nf : Nat) (Y : Nat → Nat) : Prop := I m 26 = nI nf ∧ ∀ f, f < nf → I (m + 7) (2 * f) = nI (Y (2 * f)) ∧ I (m + 7) (2 * f + 1) = nI (Y (2 * f + 1))
def MR (I : Nat → Nat → Int32) (w : Nat) (T : Nat → Nat) : Prop := ∀ k, k < 50 → I w k = nI (T k)
theorem bareA_le {nf f : Nat} {Y T : Nat → Nat} (W : okV nf Y) (hf : f < nf) : bareA Y T f ≤ 40 := by
  have := (W.2 f hf).2.1
  unfold bareA
  omega
theorem okT.t {B nf : Nat} {Y T : Nat → Nat} (O : okT B nf Y T) (W : okV nf Y) {f : Nat} (hf : f < 6) : T (27 + 3 * f) + T (28 + 3 * f) ≤ 40 := by
  by_cases h : f < nf
  · exact Nat.le_trans (O.2.1 f h) (W.2 f h).2.1
  · have := O.2.2.1 f hf (by omega)
    omega
theorem bits_6 (P : Nat → Bool) {k : Nat} (hk : k ≤ 6) : bitsA P k < 64 := Nat.lt_of_lt_of_le (bitsA_lt P k) (Nat.pow_le_pow_right (by decide) hk)
theorem bits_9 (P : Nat → Bool) {k : Nat} (hk : k ≤ 9) : bitsA P k < 512 := Nat.lt_of_lt_of_le (bitsA_lt P k) (Nat.pow_le_pow_right (by decide) hk)
theorem reachA_lt {B nf : Nat} {Y T : Nat → Nat} (O : okT B nf Y T) (W : okV nf Y) (set : Nat) : ∀ k, k ≤ 9 → reachA T set k < 2 ^ 6
  | 0, _ => by simp [reachA]
  | k + 1, hk => by
    rw [reachA]
    refine Nat.or_lt_two_pow (reachA_lt O W set k (by omega)) ?_
    split
    · rename_i h
      have h1 : 0 < T (3 * k + 2) := by
        rw [Bool.and_eq_true] at h
        simpa [openA] using h.1
      have h2 := ((O.1 k (by omega)).2 h1).2.1
      have h3 := W.1
      exact Nat.pow_lt_pow_right (by decide) (by omega)
    · decide
