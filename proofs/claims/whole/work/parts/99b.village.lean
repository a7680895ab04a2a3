/-! VILLAGES: what a text says -/
def loV (i k : Nat) : Nat := if (i = 1 ∧ k = 0) ∨ (i = 2 ∧ k = 2) then 1 else 0
def hiV (i k : Nat) : Nat := if i = 0 then 99 else if i = 1 then (if k = 0 then 40 else 9) else (if k < 2 then 5 else 9)
def usV (i k : Nat) : Nat := if i = 0 then (if k = 0 then 40 else 20) else if i = 1 then (if k = 0 then 10 else 3) else (if k = 0 then 0 else if k = 1 then 1 else 3)
/-- the items of a clause -/
def itP (tx : Nat → Nat) (ln i : Nat) : Nat → Nat → (Nat → Nat) → Nat → Nat × Option (Nat → Nat)
  | 0, _, _, p => (p, none)
  | j + 1, mt, f, p => if idxA i (lk tx ln p) = -1 then (sk tx ln p, some f) else if mt.testBit (idxA i (lk tx ln p)).toNatClampNeg = true then (sk tx ln p, none) else match (nmA tx ln 2 (sk tx ln p + 1)).2 with
    | none => ((nmA tx ln 2 (sk tx ln p + 1)).1, none)
    | some v => if v < loV i (idxA i (lk tx ln p)).toNatClampNeg ∨ hiV i (idxA i (lk tx ln p)).toNatClampNeg < v then ((nmA tx ln 2 (sk tx ln p + 1)).1 - 1, none) else itP tx ln i j (mt ||| 2 ^ (idxA i (lk tx ln p)).toNatClampNeg) (up f (idxA i (lk tx ln p)).toNatClampNeg v) (nmA tx ln 2 (sk tx ln p + 1)).1
def vcP (tx : Nat → Nat) (ln p : Nat) (s : Vt × Bool) : Nat × Option (Vt × Bool) :=
  if lk tx ln p = 115 then (if s.2 = true then (sk tx ln p, none) else ((itP tx ln 0 4 0 (usV 0) (sk tx ln p + 1)).1, (itP tx ln 0 4 0 (usV 0) (sk tx ln p + 1)).2.map (fun f => ((s.1.1, s.1.2.1, s.1.2.2.1, s.1.2.2.2.1, f 0, f 1), true))))
  else if lk tx ln p = 102 then (if 6 ≤ s.1.1 then (sk tx ln p, none) else ((itP tx ln 1 4 0 (usV 1) (sk tx ln p + 1)).1, (itP tx ln 1 4 0 (usV 1) (sk tx ln p + 1)).2.map (fun f => ((s.1.1 + 1, up (up s.1.2.1 (2 * s.1.1) (f 0)) (2 * s.1.1 + 1) (f 1), s.1.2.2.1, s.1.2.2.2.1, s.1.2.2.2.2.1, s.1.2.2.2.2.2), s.2))))
  else if lk tx ln p = 119 then (if 9 ≤ s.1.2.2.1 then (sk tx ln p, none) else ((itP tx ln 2 4 0 (usV 2) (sk tx ln p + 1)).1, (itP tx ln 2 4 0 (usV 2) (sk tx ln p + 1)).2.map (fun f => ((s.1.1, s.1.2.1, s.1.2.2.1 + 1, up (up (up s.1.2.2.2.1 (3 * s.1.2.2.1) (f 0)) (3 * s.1.2.2.1 + 1) (f 1)) (3 * s.1.2.2.1 + 2) (f 2), s.1.2.2.2.2.1, s.1.2.2.2.2.2), s.2))))
  else (sk tx ln p, none)
def whV (vl : Vt) : Bool := decide (0 < vl.1 ∧ ∀ p, p < vl.2.2.1 → vl.2.2.2.1 (3 * p) < vl.1 ∧ vl.2.2.2.1 (3 * p + 1) < vl.1 ∧ vl.2.2.2.1 (3 * p) ≠ vl.2.2.2.1 (3 * p + 1))
def vlP (tx : Nat → Nat) (ln : Nat) : Nat → Nat → Vt × Bool → Nat × Option Vt
  | 0, p, _ => (p, none)
  | j + 1, p, s => match (vcP tx ln p s).2 with
    | none => ((vcP tx ln p s).1, none)
    | some s' => if lk tx ln (vcP tx ln p s).1 = -1 then (sk tx ln (vcP tx ln p s).1, if whV s'.1 = true then some s'.1 else none) else if lk tx ln (vcP tx ln p s).1 = 59 then vlP tx ln j (sk tx ln (vcP tx ln p s).1 + 1) s' else (sk tx ln (vcP tx ln p s).1, none)
def vl0 : Vt × Bool := ((0, (fun _ => 0), 0, (fun _ => 0), 40, 20), false)
def villP (tx : Nat → Nat) (ln : Nat) : Nat × Option Vt := vlP tx ln (ln + 1) 0 vl0
theorem lenV : lenA 0 = 2 ∧ lenA 1 = 2 ∧ lenA 2 = 3 := by decide
theorem lenV3 : ∀ i : Nat, i < 3 → lenA i ≤ 3 := by decide +kernel
theorem idx_m1 : ∀ i : Nat, i < 6 → idxA i (-1) = -1 := by decide +kernel
theorem idx_k {i : Nat} {c : Int32} (h : idxA i c ≠ -1) : ∃ k, k < lenA i ∧ idxA i c = nI k := by
  obtain ⟨k', _, h2, h3, _⟩ := idxF_spec i c (lenA i) 0 h
  exact ⟨k', by omega, h3⟩
theorem pop3 : ∀ a : Nat, a < 8 → ∀ k : Nat, k < 3 → a.testBit k = false → pop10 (a ||| 2 ^ k) = pop10 a + 1 := by decide +kernel
theorem pop3l : ∀ l : Nat, l < 4 → ∀ a : Nat, a < 2 ^ l → pop10 a ≤ l := by decide +kernel
theorem or3 : ∀ l : Nat, l < 4 → ∀ a : Nat, a < 2 ^ l → ∀ k : Nat, k < l → a ||| 2 ^ k < 2 ^ l := by decide +kernel
theorem itP_ok {tx : Nat → Nat} {ln i : Nat} (hi : i < 3) : ∀ (j mt : Nat) (f : Nat → Nat) (p : Nat), p ≤ ln → (∀ k, k < lenA i → loV i k ≤ f k ∧ f k ≤ hiV i k) → (itP tx ln i j mt f p).1 ≤ ln ∧ ∀ g, (itP tx ln i j mt f p).2 = some g → p ≤ (itP tx ln i j mt f p).1 ∧ ∀ k, k < lenA i → loV i k ≤ g k ∧ g k ≤ hiV i k
  | 0, mt, f, p, hp, _ => ⟨hp, fun g h => by injection h⟩
  | j + 1, mt, f, p, hp, hf => by
    have a1 := sk_le (tx := tx) hp
    have g1 := sk_ge (tx := tx) (ln := ln) (p := p)
    rw [itP]
    split
    · exact ⟨a1, fun g h => by injection h with h; subst h; exact ⟨g1, hf⟩⟩
    rename_i hx
    obtain ⟨k, hk, ek⟩ := idx_k hx
    have hl := lenA_le i (by omega)
    rw [ek, tk_c (by omega)]
    have l1 : lk tx ln p ≠ -1 := fun h => hx (by rw [h]; exact idx_m1 i (by omega))
    have l2 := lk_lt l1
    split
    · exact ⟨a1, fun g h => by injection h⟩
    have n1 := nmA_le (tx := tx) (D := 2) (ln := ln) (p := sk tx ln p + 1) (by omega)
    split
    · exact ⟨n1, fun g h => by injection h⟩
    rename_i v hv
    have n2 := nmA_ok (tx := tx) (ln := ln) (D := 2) (p := sk tx ln p + 1) (q := (nmA tx ln 2 (sk tx ln p + 1)).1) (v := v) (by omega) (by rw [← hv]) (by omega)
    split
    · exact ⟨by show _ - 1 ≤ ln; omega, fun g h => by injection h⟩
    rename_i hb
    obtain ⟨b1, b2⟩ := itP_ok hi j (mt ||| 2 ^ k) (up f k v) _ n1 (fun k' hk' => by
      by_cases e : k' = k
      · subst e; rw [up_at]; omega
      · rw [up_ne e]; exact hf k' hk')
    exact ⟨b1, fun g h => ⟨by have := (b2 g h).1; omega, (b2 g h).2⟩⟩
theorem us_ok : ∀ i : Nat, i < 3 → ∀ k : Nat, k < 3 → k < lenA i → loV i k ≤ usV i k ∧ usV i k ≤ hiV i k := by decide +kernel
/-- what is kept while a village is read -/
def okD (s : Vt × Bool) : Prop := okV s.1.1 s.1.2.1 ∧ s.1.2.2.1 ≤ 9 ∧ s.1.2.2.2.2.1 ≤ 99 ∧ s.1.2.2.2.2.2 ≤ 99 ∧ (∀ p, p < s.1.2.2.1 → s.1.2.2.2.1 (3 * p) ≤ 5 ∧ s.1.2.2.2.1 (3 * p + 1) ≤ 5 ∧ 1 ≤ s.1.2.2.2.1 (3 * p + 2) ∧ s.1.2.2.2.1 (3 * p + 2) ≤ 9) ∧ (s.2 = false → s.1.2.2.2.2.1 = 40 ∧ s.1.2.2.2.2.2 = 20)
theorem okD0 : okD vl0 := ⟨⟨by decide, fun f h => absurd h (by show ¬ f < 0; omega)⟩, by decide, by decide, by decide, fun p h => absurd h (by show ¬ p < 0; omega), fun _ => ⟨rfl, rfl⟩⟩
theorem vcP_ok {tx : Nat → Nat} {ln p : Nat} {s : Vt × Bool} (hp : p ≤ ln) (O : okD s) : (vcP tx ln p s).1 ≤ ln ∧ ∀ s', (vcP tx ln p s).2 = some s' → p + 1 ≤ (vcP tx ln p s).1 ∧ okD s' := by
  have a1 := sk_le (tx := tx) hp
  have g1 := sk_ge (tx := tx) (ln := ln) (p := p)
  obtain ⟨⟨o0, o1⟩, o2, o3, o4, o5, o6⟩ := O
  have u : ∀ i, i < 3 → ∀ k, k < lenA i → loV i k ≤ usV i k ∧ usV i k ≤ hiV i k := fun i hi k hk => us_ok i hi k (Nat.lt_of_lt_of_le hk (lenV3 i hi)) hk
  unfold vcP
  split
  · rename_i hc
    have l1 := lk_lt (p := p) (tx := tx) (ln := ln) (by rw [hc]; decide)
    obtain ⟨b1, b2⟩ := itP_ok (tx := tx) (ln := ln) (i := 0) (by omega) 4 0 (usV 0) (sk tx ln p + 1) (by omega) (u 0 (by omega))
    split
    · exact ⟨a1, fun s' h => by injection h⟩
    · refine ⟨b1, fun s' h => ?_⟩
      obtain ⟨g, hg, rfl⟩ := Option.map_eq_some_iff.mp h
      obtain ⟨c1, c2⟩ := b2 g hg
      have k0 := c2 0 (by decide)
      have k1 := c2 1 (by decide)
      exact ⟨by show p + 1 ≤ _; omega, ⟨o0, o1⟩, o2, k0.2, k1.2, o5, fun h => absurd (show true = false from h) (by decide)⟩
  split
  · rename_i hc
    have l1 := lk_lt (p := p) (tx := tx) (ln := ln) (by rw [hc]; decide)
    obtain ⟨b1, b2⟩ := itP_ok (tx := tx) (ln := ln) (i := 1) (by omega) 4 0 (usV 1) (sk tx ln p + 1) (by omega) (u 1 (by omega))
    split
    · exact ⟨a1, fun s' h => by injection h⟩
    · rename_i h6
      refine ⟨b1, fun s' h => ?_⟩
      obtain ⟨g, hg, rfl⟩ := Option.map_eq_some_iff.mp h
      obtain ⟨c1, c2⟩ := b2 g hg
      have k0 : 1 ≤ g 0 ∧ g 0 ≤ 40 := c2 0 (by decide)
      have k1 : 0 ≤ g 1 ∧ g 1 ≤ 9 := c2 1 (by decide)
      refine ⟨by show p + 1 ≤ _; omega, ⟨by show s.1.1 + 1 ≤ 6; omega, fun f hf => ?_⟩, o2, o3, o4, o5, o6⟩
      replace hf : f < s.1.1 + 1 := hf
      show 1 ≤ up (up s.1.2.1 (2 * s.1.1) (g 0)) (2 * s.1.1 + 1) (g 1) (2 * f) ∧ up (up s.1.2.1 (2 * s.1.1) (g 0)) (2 * s.1.1 + 1) (g 1) (2 * f) ≤ 40 ∧ up (up s.1.2.1 (2 * s.1.1) (g 0)) (2 * s.1.1 + 1) (g 1) (2 * f + 1) ≤ 9
      by_cases e : f = s.1.1
      · subst e
        rw [up_at, up_ne (by omega), up_at]
        exact ⟨k0.1, k0.2, k1.2⟩
      · rw [up_ne (by omega), up_ne (by omega), up_ne (by omega), up_ne (by omega)]
        exact o1 f (by omega)
  split
  · rename_i hc
    have l1 := lk_lt (p := p) (tx := tx) (ln := ln) (by rw [hc]; decide)
    obtain ⟨b1, b2⟩ := itP_ok (tx := tx) (ln := ln) (i := 2) (by omega) 4 0 (usV 2) (sk tx ln p + 1) (by omega) (u 2 (by omega))
    split
    · exact ⟨a1, fun s' h => by injection h⟩
    · rename_i h9
      refine ⟨b1, fun s' h => ?_⟩
      obtain ⟨g, hg, rfl⟩ := Option.map_eq_some_iff.mp h
      obtain ⟨c1, c2⟩ := b2 g hg
      have k0 : 0 ≤ g 0 ∧ g 0 ≤ 5 := c2 0 (by decide)
      have k1 : 0 ≤ g 1 ∧ g 1 ≤ 5 := c2 1 (by decide)
      have k2 : 1 ≤ g 2 ∧ g 2 ≤ 9 := c2 2 (by decide)
      refine ⟨by show p + 1 ≤ _; omega, ⟨o0, o1⟩, by show s.1.2.2.1 + 1 ≤ 9; omega, o3, o4, fun f hf => ?_, o6⟩
      replace hf : f < s.1.2.2.1 + 1 := hf
      show up (up (up s.1.2.2.2.1 (3 * s.1.2.2.1) (g 0)) (3 * s.1.2.2.1 + 1) (g 1)) (3 * s.1.2.2.1 + 2) (g 2) (3 * f) ≤ 5 ∧ up (up (up s.1.2.2.2.1 (3 * s.1.2.2.1) (g 0)) (3 * s.1.2.2.1 + 1) (g 1)) (3 * s.1.2.2.1 + 2) (g 2) (3 * f + 1) ≤ 5 ∧ 1 ≤ up (up (up s.1.2.2.2.1 (3 * s.1.2.2.1) (g 0)) (3 * s.1.2.2.1 + 1) (g 1)) (3 * s.1.2.2.1 + 2) (g 2) (3 * f + 2) ∧ up (up (up s.1.2.2.2.1 (3 * s.1.2.2.1) (g 0)) (3 * s.1.2.2.1 + 1) (g 1)) (3 * s.1.2.2.1 + 2) (g 2) (3 * f + 2) ≤ 9
      by_cases e : f = s.1.2.2.1
      · subst e
        have z0 : up (up (up s.1.2.2.2.1 (3 * s.1.2.2.1) (g 0)) (3 * s.1.2.2.1 + 1) (g 1)) (3 * s.1.2.2.1 + 2) (g 2) (3 * s.1.2.2.1) = g 0 := by rw [up_ne (by omega), up_ne (by omega), up_at]
        have z1 : up (up (up s.1.2.2.2.1 (3 * s.1.2.2.1) (g 0)) (3 * s.1.2.2.1 + 1) (g 1)) (3 * s.1.2.2.1 + 2) (g 2) (3 * s.1.2.2.1 + 1) = g 1 := by rw [up_ne (by omega), up_at]
        rw [z0, z1, up_at]
        omega
      · rw [up_ne (by omega), up_ne (by omega), up_ne (by omega), up_ne (by omega), up_ne (by omega), up_ne (by omega), up_ne (by omega), up_ne (by omega), up_ne (by omega)]
        exact o5 f (by omega)
  · exact ⟨a1, fun s' h => by injection h⟩
theorem okD_whole {s : Vt × Bool} (O : okD s) (h : whV s.1 = true) : okVl s.1 ∧ 0 < s.1.1 := by
  obtain ⟨o0, o2, o3, o4, o5, o6⟩ := O
  unfold whV at h
  rw [decide_eq_true_iff] at h
  exact ⟨⟨o0, o2, o3, o4, fun p hp => ⟨(h.2 p hp).1, (h.2 p hp).2.1, (h.2 p hp).2.2, (o5 p hp).2.2.1, (o5 p hp).2.2.2⟩⟩, h.1⟩
theorem vlP_ok {tx : Nat → Nat} {ln : Nat} : ∀ (j p : Nat) (s : Vt × Bool), p ≤ ln → okD s → (vlP tx ln j p s).1 ≤ ln ∧ ∀ vl, (vlP tx ln j p s).2 = some vl → okVl vl ∧ 0 < vl.1
  | 0, p, s, hp, _ => ⟨hp, fun vl h => by injection h⟩
  | j + 1, p, s, hp, O => by
    obtain ⟨a, b⟩ := vcP_ok (tx := tx) hp O
    have ga := sk_le (tx := tx) a
    rw [vlP]
    split
    · exact ⟨a, fun vl h => by injection h⟩
    rename_i s' hs
    obtain ⟨b1, b2⟩ := b s' hs
    split
    · refine ⟨ga, fun vl h => ?_⟩
      by_cases hw : whV s'.1 = true
      · replace h : (if whV s'.1 = true then some s'.1 else none) = some vl := h
        rw [if_pos hw] at h
        injection h with h
        subst h
        exact okD_whole b2 hw
      · replace h : (if whV s'.1 = true then some s'.1 else none) = some vl := h
        rw [if_neg hw] at h
        injection h
    split
    · rename_i h59
      have := lk_lt (p := (vcP tx ln p s).1) (tx := tx) (ln := ln) (by rw [h59]; decide)
      exact vlP_ok j _ s' (by omega) b2
    · exact ⟨ga, fun vl h => by injection h⟩
theorem villP_ok {tx : Nat → Nat} {ln : Nat} : (villP tx ln).1 ≤ ln ∧ ∀ vl, (villP tx ln).2 = some vl → okVl vl ∧ 0 < vl.1 := vlP_ok _ _ _ (by omega) okD0
