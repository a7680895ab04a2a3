/-! SINS, DAYS, STEPS, THE START -/
/-- the lowest place at or above k without a wrong (9: there is none) -/
def freeA (T : Nat → Nat) : Nat → Nat → Nat
  | 0, k => k
  | j + 1, k => if T (3 * k + 2) = 0 then k else freeA T j (k + 1)
theorem freeA_lo (T : Nat → Nat) : ∀ j k, k ≤ freeA T j k
  | 0, _ => Nat.le_refl _
  | j + 1, k => by
    rw [freeA]
    split
    · omega
    · exact Nat.le_trans (by omega) (freeA_lo T j (k + 1))
theorem freeA_le (T : Nat → Nat) : ∀ j k, freeA T j k ≤ k + j
  | 0, _ => Nat.le_refl _
  | j + 1, k => by
    rw [freeA]
    split
    · omega
    · exact Nat.le_trans (freeA_le T j (k + 1)) (by omega)
theorem freeA_at (T : Nat → Nat) : ∀ j k, freeA T j k < k + j → T (3 * freeA T j k + 2) = 0
  | 0, _, h => absurd h (Nat.lt_irrefl _)
  | j + 1, k, h => by
    rw [freeA] at h ⊢
    split
    · assumption
    · rename_i h1
      rw [if_neg h1] at h
      exact freeA_at T j (k + 1) (by omega)
/-- a wrong that can be done anew -/
def canSin (nf : Nat) (T : Nat → Nat) (p q r : Int32) : Prop := ∃ x y z : Nat, p = nI x ∧ q = nI y ∧ r = nI z ∧ x < nf ∧ y < nf ∧ x ≠ y ∧ 1 ≤ z ∧ z ≤ 9 ∧ freeA T 9 0 < 9
/-- a day's wear of the farms below k -/
def wearF (T : Nat → Nat) : Nat → Nat → Nat
  | 0 => T
  | k + 1 => up (up (wearF T k) (28 + 3 * k) (T (28 + 3 * k) - (T (28 + 3 * k) + 1) / 2)) (27 + 3 * k) (if T 49 % 3 = 2 then T (27 + 3 * k) - 1 else T (27 + 3 * k))
def cameA (T : Nat → Nat) (k : Nat) : Nat := sumA (fun f => (T (28 + 3 * f) + 1) / 2) k
theorem wearF_ne (T : Nat → Nat) {j : Nat} : ∀ k, (j < 27 ∨ 27 + 3 * k ≤ j) → wearF T k j = T j
  | 0, _ => rfl
  | k + 1, h => by rw [wearF, up_ne (by omega), up_ne (by omega), wearF_ne T k (by omega)]
def wornT (nf : Nat) (T : Nat → Nat) : Nat → Nat := up (wearF T nf) 46 (min 9999 (T 46 + cameA T nf))
def dayT (nf : Nat) (Y T : Nat → Nat) : Nat → Nat := up (up (wornT nf T) 48 (min 999 (T 48 + popA (whitesA nf Y (wornT nf T))))) 49 (T 49 + 1)
theorem wearF_at27 (T : Nat → Nat) : ∀ k f, wearF T k (27 + 3 * f) = if f < k then (if T 49 % 3 = 2 then T (27 + 3 * f) - 1 else T (27 + 3 * f)) else T (27 + 3 * f)
  | 0, f => by rw [if_neg (by omega)]; rfl
  | k + 1, f => by
    rw [wearF]
    by_cases e : f = k
    · subst e; rw [up_at, if_pos (by omega)]
    · rw [up_ne (by omega), up_ne (by omega), wearF_at27 T k f]
      by_cases h : f < k
      · rw [if_pos h, if_pos (by omega)]
      · rw [if_neg h, if_neg (by omega)]
theorem wearF_at28 (T : Nat → Nat) : ∀ k f, wearF T k (28 + 3 * f) = if f < k then T (28 + 3 * f) - (T (28 + 3 * f) + 1) / 2 else T (28 + 3 * f)
  | 0, f => by rw [if_neg (by omega)]; rfl
  | k + 1, f => by
    rw [wearF]
    by_cases e : f = k
    · subst e; rw [up_ne (by omega), up_at, if_pos (by omega)]
    · rw [up_ne (by omega), up_ne (by omega), wearF_at28 T k f]
      by_cases h : f < k
      · rw [if_pos h, if_pos (by omega)]
      · rw [if_neg h, if_neg (by omega)]
theorem wearF_at29 (T : Nat → Nat) : ∀ k f, wearF T k (29 + 3 * f) = T (29 + 3 * f)
  | 0, f => rfl
  | k + 1, f => by rw [wearF, up_ne (by omega), up_ne (by omega), wearF_at29 T k f]
section
variable {G : zG} {d : Nat} {I : Nat → Nat → Int32} {J : Nat → Nat → Int64} {R : Nat → Nat → Option Nat} {K : Nat → Nat × Nat} {n : Nat} {a s v nf B : Nat} {Y T : Nat → Nat} {Wc : Nat → Nat → Nat → Nat → Nat → Nat → Nat} {Q : Option Value → zH → Prop} {I' : Nat → Nat → Int32}
theorem okT.wornT (O : okT B nf Y T) (W : okV nf Y) : okT B nf Y (wornT nf T) := by
  have h6 := W.1
  obtain ⟨o1, o2, o3, o4, o5, o6, o7, o8, o9, oB⟩ := O
  unfold _root_.Jvm.Pilot.CFenceYardsLaw_law_r9963_29461e.wornT
  refine ⟨fun p hp => ?_, fun f hf => ?_, fun f hf hn => ?_, fun f hf => ?_, ?_, ?_, ?_, ?_, ?_, oB⟩
  · rw [up_ne (by omega), up_ne (by omega), up_ne (by omega), wearF_ne T nf (by omega), wearF_ne T nf (by omega), wearF_ne T nf (by omega)]
    exact o1 p hp
  · rw [up_ne (by omega), up_ne (by omega), wearF_at27, wearF_at28, if_pos hf, if_pos hf]
    have := o2 f hf
    split <;> omega
  · rw [up_ne (by omega), up_ne (by omega), wearF_at27, wearF_at28, if_neg (by omega), if_neg (by omega)]
    exact o3 f hf hn
  · rw [up_ne (by omega), wearF_at29]
    exact o4 f hf
  · rw [up_ne (by omega), wearF_ne T nf (by omega)]; exact o5
  · rw [up_at]; omega
  · rw [up_ne (by omega), wearF_ne T nf (by omega)]; exact o7
  · rw [up_ne (by omega), wearF_ne T nf (by omega)]; exact o8
  · rw [up_ne (by omega), wearF_ne T nf (by omega)]; exact o9
end
