/-! WAYS OVER WRONGS: how far one farm is from another -/
/-- farms that one to i open wrongs lead to -/
def vA (T : Nat → Nat) (f : Nat) : Nat → Nat
  | 0 => 0
  | 1 => reachA T (2 ^ f) 9
  | i + 2 => vA T f (i + 1) ||| reachA T (vA T f (i + 1)) 9
/-- one open wrong on from a set, to none of v -/
def rA (T : Nat → Nat) (s v : Nat) : Nat → Nat
  | 0 => 0
  | k + 1 => rA T s v k ||| (if openA T k = true ∧ s.testBit (T (3 * k)) = true ∧ v.testBit (T (3 * k + 1)) = false then 2 ^ T (3 * k + 1) else 0)
def fA (T : Nat → Nat) (f : Nat) : Nat → Nat
  | 0 => 2 ^ f
  | i + 1 => rA T (fA T f i) (vA T f i) 9
def fV (T : Nat → Nat) (f g : Nat) : Nat → Nat → Int32
  | 0, _ => -1
  | j + 1, i => if (vA T f i).testBit g = true then nI i else fV T f g j (i + 1)
theorem bit_if {c : Prop} {hc : Decidable c} {a g : Nat} : (if c then 2 ^ a else 0).testBit g = true ↔ c ∧ a = g := by
  by_cases h : c
  · rw [if_pos h, Nat.testBit_two_pow, decide_eq_true_iff]
    exact ⟨fun e => ⟨h, e⟩, fun e => e.2⟩
  · rw [if_neg h, Nat.zero_testBit]
    exact ⟨fun e => absurd e (by decide), fun e => absurd e.1 h⟩
theorem reach_bit {T : Nat → Nat} {s g : Nat} : ∀ k, (reachA T s k).testBit g = true ↔ ∃ p, p < k ∧ openA T p = true ∧ s.testBit (T (3 * p)) = true ∧ T (3 * p + 1) = g
  | 0 => by
    rw [reachA, Nat.zero_testBit]
    exact ⟨fun e => absurd e (by decide), fun ⟨p, hp, _⟩ => absurd hp (by omega)⟩
  | k + 1 => by
    rw [reachA, Nat.testBit_or, Bool.or_eq_true, reach_bit k, bit_if, Bool.and_eq_true]
    constructor
    · rintro (⟨p, hp, h⟩ | ⟨⟨h1, h2⟩, h3⟩)
      · exact ⟨p, by omega, h⟩
      · exact ⟨k, by omega, h1, h2, h3⟩
    · rintro ⟨p, hp, h1, h2, h3⟩
      by_cases e : p = k
      · subst e; exact Or.inr ⟨⟨h1, h2⟩, h3⟩
      · exact Or.inl ⟨p, by omega, h1, h2, h3⟩
theorem rA_bit {T : Nat → Nat} {s v g : Nat} : ∀ k, (rA T s v k).testBit g = true ↔ ∃ p, p < k ∧ openA T p = true ∧ s.testBit (T (3 * p)) = true ∧ v.testBit g = false ∧ T (3 * p + 1) = g
  | 0 => by
    rw [rA, Nat.zero_testBit]
    exact ⟨fun e => absurd e (by decide), fun ⟨p, hp, _⟩ => absurd hp (by omega)⟩
  | k + 1 => by
    rw [rA, Nat.testBit_or, Bool.or_eq_true, rA_bit k, bit_if]
    constructor
    · rintro (⟨p, hp, h⟩ | ⟨⟨h1, h2, h4⟩, h3⟩)
      · exact ⟨p, by omega, h⟩
      · exact ⟨k, by omega, h1, h2, by rw [← h3]; exact h4, h3⟩
    · rintro ⟨p, hp, h1, h2, h4, h3⟩
      by_cases e : p = k
      · subst e; exact Or.inr ⟨⟨h1, h2, by rw [h3]; exact h4⟩, h3⟩
      · exact Or.inl ⟨p, by omega, h1, h2, h4, h3⟩
theorem bit_lt {s n : Nat} (h : ∀ g, s.testBit g = true → g < n) : s < 2 ^ n := by
  refine Nat.lt_pow_two_of_testBit s (fun i hi => ?_)
  rw [Bool.eq_false_iff]
  intro h2
  have := h i h2
  omega
section
variable {T Y : Nat → Nat} {B nf f g : Nat}
theorem reach_lt (O : okT B nf Y T) (h6 : nf ≤ 6) {s k : Nat} (hk : k ≤ 9) : reachA T s k < 64 := bit_lt (n := 6) (fun g hg => by
  obtain ⟨p, hp, h1, h2, h3⟩ := (reach_bit k).mp hg
  have := (O.1 p (by omega)).2 (by simpa [openA] using h1)
  omega)
theorem rA_lt (O : okT B nf Y T) (h6 : nf ≤ 6) {s v k : Nat} (hk : k ≤ 9) : rA T s v k < 64 := bit_lt (n := 6) (fun g hg => by
  obtain ⟨p, hp, h1, h2, h4, h3⟩ := (rA_bit k).mp hg
  have := (O.1 p (by omega)).2 (by simpa [openA] using h1)
  omega)
theorem vA_lt (O : okT B nf Y T) (h6 : nf ≤ 6) : ∀ i, vA T f i < 64
  | 0 => by show 0 < 64; decide
  | 1 => reach_lt O h6 (by omega)
  | i + 2 => Nat.or_lt_two_pow (n := 6) (vA_lt O h6 (i + 1)) (reach_lt O h6 (by omega))
theorem fA_lt (O : okT B nf Y T) (h6 : nf ≤ 6) (hf : f < 6) : ∀ i, fA T f i < 64
  | 0 => by show 2 ^ f < 2 ^ 6; exact Nat.pow_lt_pow_right (by decide) hf
  | i + 1 => rA_lt O h6 (by omega)
theorem vA_up {i : Nat} (h : (vA T f i).testBit g = true) : (vA T f (i + 1)).testBit g = true := by
  match i, h with
  | 0, h => rw [vA, Nat.zero_testBit] at h; exact absurd h (by decide)
  | i + 1, h => rw [vA, Nat.testBit_or, h]; rfl
theorem vA_mono {i j : Nat} (hij : i ≤ j) (h : (vA T f i).testBit g = true) : (vA T f j).testBit g = true := by
  induction j with
  | zero => obtain rfl : i = 0 := by omega
            exact h
  | succ j ih =>
    by_cases e : i = j + 1
    · subst e; exact h
    · exact vA_up (ih (by omega))
theorem fA_bit : ∀ (i : Nat) {y : Nat}, (fA T f (i + 1)).testBit y = true ↔ ((vA T f (i + 1)).testBit y = true ∧ (vA T f i).testBit y = false)
  | 0, y => by
    rw [fA, rA_bit, fA, vA, vA, reach_bit]
    simp only [Nat.zero_testBit, and_true, true_and]
  | i + 1, y => by
    rw [fA, rA_bit, vA, Nat.testBit_or, Bool.or_eq_true, reach_bit]
    constructor
    · rintro ⟨p, hp, h1, h2, h4, h3⟩
      exact ⟨Or.inr ⟨p, hp, h1, ((fA_bit i).mp h2).1, h3⟩, h4⟩
    · rintro ⟨h | ⟨p, hp, h1, h2, h3⟩, h4⟩
      · rw [h] at h4; exact absurd h4 (by decide)
      · refine ⟨p, hp, h1, (fA_bit i).mpr ⟨h2, ?_⟩, h4, h3⟩
        rw [Bool.eq_false_iff]
        intro h5
        match i, h4, h5 with
        | 0, _, h5 => rw [vA, Nat.zero_testBit] at h5; exact absurd h5 (by decide)
        | i + 1, h4, h5 =>
          rw [vA, Nat.testBit_or, Bool.or_eq_false_iff] at h4
          exact absurd ((reach_bit 9).mpr ⟨p, hp, h1, h5, h3⟩) (by rw [h4.2]; decide)
theorem fV_none : ∀ {j i : Nat}, i + j < 1000 → (fV T f g j i = -1 ↔ ∀ e, i ≤ e → e < i + j → (vA T f e).testBit g = false)
  | 0, i, _ => ⟨fun _ e h1 h2 => absurd h2 (by omega), fun _ => rfl⟩
  | j + 1, i, hl => by
    rw [fV]
    by_cases h : (vA T f i).testBit g = true
    · rw [if_pos h]
      exact ⟨fun e => ((tk_m1 (by omega)).mp e).elim, fun e => absurd h (by rw [e i (by omega) (by omega)]; decide)⟩
    · rw [if_neg h, fV_none (by omega)]
      refine ⟨fun e y h1 h2 => ?_, fun e y h1 h2 => e y (by omega) (by omega)⟩
      by_cases e2 : y = i
      · subst e2; simpa using h
      · exact e y (by omega) (by omega)
theorem fV_not {i : Nat} (hi : i < 100) : fV T f g i 1 = -1 ↔ (vA T f i).testBit g = false := by
  rw [fV_none (by omega)]
  constructor
  · intro h
    by_cases e : i = 0
    · subst e; rw [vA, Nat.zero_testBit]
    · exact h i (by omega) (by omega)
  · intro h e h1 h2
    rw [Bool.eq_false_iff]
    intro h3
    rw [vA_mono (show e ≤ i by omega) h3] at h
    exact absurd h (by decide)
theorem fV_snoc : ∀ {j i : Nat}, i + j < 1000 → fV T f g (j + 1) i = if fV T f g j i = -1 then (if (vA T f (i + j)).testBit g = true then nI (i + j) else -1) else fV T f g j i
  | 0, i, _ => by
    rw [fV, fV, if_pos rfl]; rfl
  | j + 1, i, hl => by
    rw [fV, fV_snoc (by omega)]
    rw [show fV T f g (j + 1) i = if (vA T f i).testBit g = true then nI i else fV T f g j (i + 1) from rfl]
    by_cases h : (vA T f i).testBit g = true
    · rw [if_pos h, if_pos h, if_neg (fun e => (tk_m1 (by omega)).mp e)]
    · rw [if_neg h, if_neg h, show i + 1 + j = i + (j + 1) by omega]
/-- one level more: what the model's step does -/
theorem fV_step {i : Nat} (hi : i < 100) : fV T f g (i + 1) 1 = if (fA T f (i + 1)).testBit g = true then nI (i + 1) else fV T f g i 1 := by
  rw [fV_snoc (by omega), show 1 + i = i + 1 by omega]
  by_cases h : fV T f g i 1 = -1
  · rw [if_pos h]
    have h2 := (fV_not hi).mp h
    by_cases h3 : (vA T f (i + 1)).testBit g = true
    · rw [if_pos h3, if_pos ((fA_bit i).mpr ⟨h3, h2⟩)]
    · rw [if_neg h3, if_neg (fun e => h3 ((fA_bit i).mp e).1), h]
  · rw [if_neg h, if_neg (fun e => h ((fV_not hi).mpr ((fA_bit i).mp e).2))]
/-- the class's ring -/
theorem links_ring : ∀ {j c : Nat}, c + j < 100 → (if linksA T g j c (vA T f (c + 1)) = -1 then (-1 : Int32) else linksA T g j c (vA T f (c + 1)) + 1) = fV T f g j (c + 1)
  | 0, _, _ => rfl
  | j + 1, c, hc => by
    rw [linksA, fV]
    by_cases h : (vA T f (c + 1)).testBit g = true
    · rw [if_pos h, if_pos h, if_neg (fun e => (tk_m1 (by omega)).mp e), nI_1]
    · rw [if_neg h, if_neg h]
      exact links_ring (j := j) (c := c + 1) (by omega)
/-- the class's chain -/
theorem links_chain (hfg : f ≠ g) : ∀ {j c : Nat} {s : Nat}, (∀ y, s.testBit y = true ↔ (y = f ∨ (vA T f (c + 1)).testBit y = true)) → linksA T g j (c + 1) s = fV T f g j (c + 1)
  | 0, _, _, _ => rfl
  | j + 1, c, s, hs => by
    rw [linksA, fV]
    by_cases h : (vA T f (c + 1)).testBit g = true
    · rw [if_pos h, if_pos ((hs g).mpr (Or.inr h))]
    · rw [if_neg h, if_neg (fun e => ((hs g).mp e).elim (fun e => hfg e.symm) h)]
      refine links_chain hfg (j := j) (c := c + 1) (fun y => ?_)
      rw [Nat.testBit_or, Bool.or_eq_true, hs y, vA, Nat.testBit_or, Bool.or_eq_true, reach_bit, reach_bit]
      constructor
      · rintro ((h | h) | ⟨p, hp, h1, h2, h3⟩)
        · exact Or.inl h
        · exact Or.inr (Or.inl h)
        · rcases (hs _).mp h2 with e | e
          · refine Or.inr (Or.inl (vA_mono (show 1 ≤ c + 1 by omega) ((reach_bit 9).mpr ⟨p, hp, h1, ?_, h3⟩)))
            rw [e, Nat.testBit_two_pow]; simp
          · exact Or.inr (Or.inr ⟨p, hp, h1, e, h3⟩)
      · rintro (h | h | ⟨p, hp, h1, h2, h3⟩)
        · exact Or.inl (Or.inl h)
        · exact Or.inl (Or.inr h)
        · exact Or.inr ⟨p, hp, h1, (hs _).mpr (Or.inr h2), h3⟩
def pop6 (s : Nat) : Nat := sumA (fun j => if s.testBit j then 1 else 0) 6
theorem pop6_grow : ∀ s : Fin 64, ∀ t : Fin 64, (s.1 ||| t.1) ≠ s.1 → pop6 s.1 + 1 ≤ pop6 (s.1 ||| t.1) := by decide +kernel
theorem pop6_le : ∀ s : Nat, s < 64 → pop6 s ≤ 6 := by decide +kernel
/-- farms that at most i open wrongs lead to -/
def wA (T : Nat → Nat) (f : Nat) : Nat → Nat
  | 0 => 2 ^ f
  | i + 1 => wA T f i ||| reachA T (wA T f i) 9
theorem wA_lt (O : okT B nf Y T) (h6 : nf ≤ 6) (hf : f < 6) : ∀ i, wA T f i < 64
  | 0 => by show 2 ^ f < 2 ^ 6; exact Nat.pow_lt_pow_right (by decide) hf
  | i + 1 => Nat.or_lt_two_pow (n := 6) (wA_lt O h6 hf i) (reach_lt O h6 (by omega))
theorem wA_bit : ∀ i y, (wA T f i).testBit y = true ↔ (y = f ∨ (vA T f i).testBit y = true)
  | 0, y => by
    rw [wA, vA, Nat.zero_testBit, Nat.testBit_two_pow, decide_eq_true_iff]
    exact ⟨fun e => Or.inl e.symm, fun e => (e.resolve_right (by decide)).symm⟩
  | 1, y => by
    rw [wA, wA, vA, Nat.testBit_or, Bool.or_eq_true, Nat.testBit_two_pow, decide_eq_true_iff]
    exact ⟨fun e => e.elim (fun e => Or.inl e.symm) Or.inr, fun e => e.elim (fun e => Or.inl e.symm) Or.inr⟩
  | i + 2, y => by
    rw [wA, Nat.testBit_or, Bool.or_eq_true, wA_bit (i + 1) y, vA, Nat.testBit_or, Bool.or_eq_true, reach_bit, reach_bit]
    constructor
    · rintro ((h | h) | ⟨p, hp, h1, h2, h3⟩)
      · exact Or.inl h
      · exact Or.inr (Or.inl h)
      · rcases (wA_bit (i + 1) _).mp h2 with e | e
        · refine Or.inr (Or.inl (vA_mono (show 1 ≤ i + 1 by omega) ((reach_bit 9).mpr ⟨p, hp, h1, ?_, h3⟩)))
          rw [e, Nat.testBit_two_pow]; simp
        · exact Or.inr (Or.inr ⟨p, hp, h1, e, h3⟩)
    · rintro (h | h | ⟨p, hp, h1, h2, h3⟩)
      · exact Or.inl (Or.inl h)
      · exact Or.inl (Or.inr h)
      · exact Or.inr ⟨p, hp, h1, (wA_bit (i + 1) _).mpr (Or.inr h2), h3⟩
theorem wA_pop (O : okT B nf Y T) (h6 : nf ≤ 6) (hf : f < 6) : ∀ i, wA T f (i + 1) = wA T f i ∨ i + 2 ≤ pop6 (wA T f (i + 1))
  | 0 => by
    by_cases h : wA T f 1 = wA T f 0
    · exact Or.inl h
    · have := pop6_grow ⟨wA T f 0, wA_lt O h6 hf 0⟩ ⟨reachA T (wA T f 0) 9, reach_lt O h6 (by omega)⟩ h
      have p0 : ∀ f : Nat, f < 6 → 1 ≤ pop6 (2 ^ f) := by decide
      have := p0 f hf
      exact Or.inr (by show 2 ≤ pop6 (wA T f 0 ||| reachA T (wA T f 0) 9); simp only [wA] at *; omega)
  | i + 1 => by
    by_cases h : wA T f (i + 2) = wA T f (i + 1)
    · exact Or.inl h
    · have := pop6_grow ⟨wA T f (i + 1), wA_lt O h6 hf _⟩ ⟨reachA T (wA T f (i + 1)) 9, reach_lt O h6 (by omega)⟩ h
      rcases wA_pop O h6 hf i with e | e
      · refine absurd ?_ h
        show wA T f (i + 1) ||| reachA T (wA T f (i + 1)) 9 = wA T f (i + 1)
        rw [e]
        exact e
      · exact Or.inr (Nat.le_trans (Nat.add_le_add_right e 1) this)
theorem wA_5 (O : okT B nf Y T) (h6 : nf ≤ 6) (hf : f < 6) : wA T f 6 = wA T f 5 := by
  rcases wA_pop O h6 hf 5 with h | h
  · exact h
  · have := pop6_le _ (wA_lt O h6 hf 6)
    exact absurd (Nat.le_trans h this) (by omega)
theorem chain_eq (O : okT B nf Y T) (h6 : nf ≤ 6) (hf : f < 6) (hfg : f ≠ g) : linksA T g 6 0 (2 ^ f) = fV T f g 6 1 := by
  have e5 : fV T f g 6 1 = fV T f g 5 1 := by
    rw [fV_snoc (j := 5) (i := 1) (by omega)]
    by_cases h : fV T f g 5 1 = -1
    · have h5 := (fV_not (i := 5) (by omega)).mp h
      have h7 : ¬ (vA T f 6).testBit g = true := fun h7 => by
        have := (wA_bit 6 g).mpr (Or.inr h7)
        rw [wA_5 O h6 hf] at this
        rcases (wA_bit 5 g).mp this with e | e
        · exact hfg e.symm
        · rw [h5] at e; exact absurd e (by decide)
      rw [if_pos h, if_neg h7, h]
    · rw [if_neg h]
  rw [e5, linksA, if_neg (by rw [Nat.testBit_two_pow, decide_eq_true_iff]; exact hfg)]
  exact links_chain hfg (j := 5) (c := 0) (fun y => wA_bit 1 y)
end
