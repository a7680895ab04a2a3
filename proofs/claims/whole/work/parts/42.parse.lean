/-! A LAW'S TEXT: what its parts give (where they end, their code; none: a fault there) -/
def jn (r : Nat) (s : Int32) : Bool := if r = 0 then decide (s = 124) else if r = 1 then decide (s = 38) else if r = 2 then decide (s = 43) || decide (s = 45) else decide (s = 42) || decide (s = 47)
def isS (s : Int32) : Bool := decide (s = 61) || decide (s = 60) || decide (s = 62)
/-- what a row is made of -/
def elm (r : Nat) : Nat := if r = 0 then 1 else if r = 1 then 8 else if r = 2 then 3 else 9
abbrev PR : Type := Nat × Option (List Int32)
def sq (a : PR) (k : Nat → PR) : PR := match a.2 with
  | none => (a.1, none)
  | some c => match (k a.1).2 with
    | none => ((k a.1).1, none)
    | some c2 => ((k a.1).1, some (c ++ c2))
def acc (tx : Nat → Nat) (ln : Nat) (s : Int32) (p : Nat) : PR := if lk tx ln p = s then (sk tx ln p + 1, some []) else (sk tx ln p, none)
def em (s : Int32) (p : Nat) : PR := (p, some [s])
/-- 0 to 3 rows (conditions, truths, sums, terms), 4 to 7 how these go on, 8 a unit, 9 an atom, 10 a comparison behind its first sum, 11 and 12 conditions and truths behind their first sum -/
def pz (tx : Nat → Nat) (ln : Nat) : Nat → Nat → Nat → Nat → PR
  | 0, _, _, p => (p, none)
  | f + 1, md, d, p =>
    if md ≤ 3 then sq (pz tx ln f (elm md) d p) (fun q => pz tx ln f (md + 4) d q)
    else if md ≤ 7 then (if jn (md - 4) (lk tx ln p) then sq (sq (pz tx ln f (elm (md - 4)) d (sk tx ln p + 1)) (em (-(lk tx ln p)))) (fun q => pz tx ln f md d q) else (sk tx ln p, some []))
    else if md = 8 then (if lk tx ln p = 33 then (if d < 6 then sq (pz tx ln f 8 (d + 1) (sk tx ln p + 1)) (em (-33)) else (sk tx ln p, none)) else if lk tx ln p = 40 then (if d < 6 then sq (pz tx ln f 0 (d + 1) (sk tx ln p + 1)) (acc tx ln 41) else (sk tx ln p, none)) else sq (pz tx ln f 2 d (sk tx ln p)) (fun q => pz tx ln f 10 d q))
    else if md = 9 then (if lk tx ln p = 91 then (if d < 6 then sq (pz tx ln f 2 (d + 1) (sk tx ln p + 1)) (acc tx ln 93) else (sk tx ln p, none)) else if idxA 3 (lk tx ln p) = -1 then ((nmA tx ln 4 (sk tx ln p)).1, (nmA tx ln 4 (sk tx ln p)).2.map (fun v => [nI v])) else (sk tx ln p + 1, some [10000 + idxA 3 (lk tx ln p)]))
    else if md = 10 then (if isS (lk tx ln p) then sq (pz tx ln f 2 d (sk tx ln p + 1)) (em (-(lk tx ln p))) else (sk tx ln p, none))
    else if md = 11 then sq (pz tx ln f 12 d p) (fun q => pz tx ln f 4 d q)
    else sq (pz tx ln f 10 d p) (fun q => pz tx ln f 5 d q)
/-- how much of the measure each wants -/
def cm (md : Nat) : Nat := if md = 0 then 6 else if md = 1 then 5 else if md = 2 then 3 else if md = 3 then 2 else if md = 8 then 4 else if md = 11 then 3 else if md = 12 then 2 else 1
theorem sq_some {a : PR} {k : Nat → PR} {q : Nat} {c : List Int32} (h : sq a k = (q, some c)) : ∃ p c1 c2, a = (p, some c1) ∧ k p = (q, some c2) ∧ c = c1 ++ c2 := by
  obtain ⟨p, o⟩ := a
  cases o with
  | none => simp [sq] at h
  | some c1 =>
    unfold sq at h
    simp only at h
    cases h2 : (k p).2 with
    | none => rw [h2] at h; simp at h
    | some c2 =>
      rw [h2] at h
      simp only [Prod.mk.injEq, Option.some.injEq] at h
      exact ⟨p, c1, c2, rfl, by rw [← h.1, ← h2], h.2.symm⟩
theorem sq_none1 {a : PR} {k : Nat → PR} (h : a.2 = none) : sq a k = (a.1, none) := by unfold sq; rw [h]
theorem sq_none2 {a : PR} {k : Nat → PR} {c : List Int32} (h : a.2 = some c) (h2 : (k a.1).2 = none) : sq a k = ((k a.1).1, none) := by unfold sq; rw [h]; simp only; rw [h2]
theorem sq_some2 {a : PR} {k : Nat → PR} {c c2 : List Int32} (h : a.2 = some c) (h2 : (k a.1).2 = some c2) : sq a k = ((k a.1).1, some (c ++ c2)) := by unfold sq; rw [h]; simp only; rw [h2]
section
variable {tx : Nat → Nat} {ln : Nat}
theorem acc_ok {s : Int32} {p q : Nat} {c : List Int32} (hs : s ≠ -1) (hp : p ≤ ln) (h : acc tx ln s p = (q, some c)) : p + 1 ≤ q ∧ q ≤ ln ∧ c = [] ∧ lk tx ln p = s ∧ q = sk tx ln p + 1 := by
  unfold acc at h
  split at h
  · rename_i h1
    simp only [Prod.mk.injEq, Option.some.injEq] at h
    have h2 := sk_ge (tx := tx) (ln := ln) (p := p)
    have h3 : sk tx ln p < ln := by
      rw [lk] at h1
      split at h1
      · assumption
      · exact absurd h1.symm hs
    exact ⟨by omega, by omega, h.2.symm, h1, h.1.symm⟩
  · simp at h
theorem nmA_ok {D p q v : Nat} (hp : p ≤ ln) (h : nmA tx ln D p = (q, some v)) (hD : 1 ≤ D) : p + 1 ≤ q ∧ q ≤ ln ∧ v < 10 ^ D := by
  unfold nmA at h
  have h1 := sk_ge (tx := tx) (ln := ln) (p := p)
  have h2 := sk_le (tx := tx) hp
  split at h
  · rename_i hd
    split at h
    · simp at h
    · simp only [Prod.mk.injEq, Option.some.injEq] at h
      have h4 := numF_le tx ln D (sk tx ln p) 0 h2
      have h5 := numF_sz tx ln D (sk tx ln p) 0 1 (by decide)
      have h6 : sk tx ln p + 1 ≤ (numF tx ln D (sk tx ln p) 0).1 := by
        cases D with
        | zero => omega
        | succ D => rw [numF, if_pos hd]; exact numF_ge ..
      rw [← h.1, ← h.2]
      exact ⟨by omega, h4, by omega⟩
  · simp at h
theorem nmA_le {D p : Nat} (hp : p ≤ ln) : (nmA tx ln D p).1 ≤ ln := by
  have h2 := sk_le (tx := tx) hp
  unfold nmA
  split
  · split
    · exact numF_le tx ln D _ 0 h2
    · exact numF_le tx ln D _ 0 h2
  · exact h2
theorem isS_ne {s : Int32} (h : isS s = true) : s ≠ -1 := by
  rintro rfl
  exact absurd h (by decide)
theorem jn_ne {r : Nat} {s : Int32} (h : jn r s = true) : s ≠ -1 := by
  rintro rfl
  unfold jn at h
  split at h
  · exact absurd h (by decide)
  · split at h
    · exact absurd h (by decide)
    · split at h
      · exact absurd h (by decide)
      · exact absurd h (by decide)
theorem lk_lt {p : Nat} (h : lk tx ln p ≠ -1) : sk tx ln p < ln := by
  unfold lk at h
  split at h
  · assumption
  · exact absurd rfl h
/-- parts that are there end behind where they began; their code is no longer than they are -/
theorem pz_ok : ∀ (f md d p q : Nat) (c : List Int32), p ≤ ln → pz tx ln f md d p = (q, some c) → p + c.length ≤ q ∧ q ≤ ln ∧ (¬ (4 ≤ md ∧ md ≤ 7) → p + 1 ≤ q) := by
  intro f
  induction f with
  | zero =>
    intro md d p q c hp h
    simp [pz] at h
  | succ f ih =>
    intro md d p q c hp h
    have g1 := sk_ge (tx := tx) (ln := ln) (p := p)
    have g2 := sk_le (tx := tx) hp
    rw [pz] at h
    split at h
    · rename_i hm
      obtain ⟨p1, c1, c2, h1, h2, rfl⟩ := sq_some h
      have he : ¬ (4 ≤ elm md ∧ elm md ≤ 7) := by unfold elm; repeat' split
                                                  all_goals omega
      have a1 := ih _ _ _ _ _ hp h1
      have a2 := ih _ _ _ _ _ a1.2.1 h2
      have a3 := a1.2.2 he
      simp only [List.length_append]
      exact ⟨by omega, a2.2.1, fun _ => by omega⟩
    · rename_i hm
      split at h
      · rename_i hm2
        split at h
        · rename_i hj
          obtain ⟨p1, c1, c2, h1, h2, rfl⟩ := sq_some h
          obtain ⟨p2, c3, c4, h3, h4, rfl⟩ := sq_some h1
          have hl := lk_lt (jn_ne hj)
          have a1 := ih _ _ _ _ _ (by omega) h3
          simp only [em, Prod.mk.injEq, Option.some.injEq] at h4
          obtain ⟨rfl, rfl⟩ := h4
          have a2 := ih _ _ _ _ _ a1.2.1 h2
          simp only [List.length_append, List.length_cons, List.length_nil]
          exact ⟨by omega, a2.2.1, fun h => absurd ⟨by omega, hm2⟩ h⟩
        · simp only [Prod.mk.injEq, Option.some.injEq] at h
          obtain ⟨rfl, rfl⟩ := h
          exact ⟨by simp; omega, g2, fun h => absurd ⟨by omega, hm2⟩ h⟩
      · rename_i hm2
        split at h
        · split at h
          · rename_i hc
            split at h
            · obtain ⟨p1, c1, c2, h1, h2, rfl⟩ := sq_some h
              have hl := lk_lt (p := p) (by rw [hc]; decide)
              have a1 := ih _ _ _ _ _ (by omega) h1
              simp only [em, Prod.mk.injEq, Option.some.injEq] at h2
              obtain ⟨rfl, rfl⟩ := h2
              simp only [List.length_append, List.length_cons, List.length_nil]
              exact ⟨by omega, a1.2.1, fun _ => by omega⟩
            · simp at h
          · split at h
            · rename_i hc
              split at h
              · obtain ⟨p1, c1, c2, h1, h2, rfl⟩ := sq_some h
                have hl := lk_lt (p := p) (by rw [hc]; decide)
                have a1 := ih _ _ _ _ _ (by omega) h1
                obtain ⟨b1, b2, rfl, -⟩ := acc_ok (by decide) a1.2.1 h2
                simp only [List.append_nil]
                exact ⟨by omega, b2, fun _ => by omega⟩
              · simp at h
            · obtain ⟨p1, c1, c2, h1, h2, rfl⟩ := sq_some h
              have a1 := ih _ _ _ _ _ g2 h1
              have a2 := ih _ _ _ _ _ a1.2.1 h2
              have a3 := a1.2.2 (by decide)
              simp only [List.length_append]
              exact ⟨by omega, a2.2.1, fun _ => by omega⟩
        · split at h
          · split at h
            · rename_i hc
              split at h
              · obtain ⟨p1, c1, c2, h1, h2, rfl⟩ := sq_some h
                have hl := lk_lt (p := p) (by rw [hc]; decide)
                have a1 := ih _ _ _ _ _ (by omega) h1
                obtain ⟨b1, b2, rfl, -⟩ := acc_ok (by decide) a1.2.1 h2
                simp only [List.append_nil]
                exact ⟨by omega, b2, fun _ => by omega⟩
              · simp at h
            · split at h
              · simp only [Prod.mk.injEq, Option.map_eq_some_iff] at h
                obtain ⟨rfl, v, hv, rfl⟩ := h
                have a1 := nmA_ok (q := (nmA tx ln 4 (sk tx ln p)).1) (v := v) g2 (by rw [← hv]) (by decide)
                simp only [List.length_cons, List.length_nil]
                exact ⟨by omega, a1.2.1, fun _ => by omega⟩
              · rename_i hi
                have hl : sk tx ln p < ln := lk_lt (fun h => by rw [h] at hi; exact hi (by decide))
                simp only [Prod.mk.injEq, Option.some.injEq] at h
                obtain ⟨rfl, rfl⟩ := h
                simp only [List.length_cons, List.length_nil]
                exact ⟨by omega, by omega, fun _ => by omega⟩
          · split at h
            · split at h
              · rename_i hc
                obtain ⟨p1, c1, c2, h1, h2, rfl⟩ := sq_some h
                have hl := lk_lt (isS_ne hc)
                have a1 := ih _ _ _ _ _ (by omega) h1
                simp only [em, Prod.mk.injEq, Option.some.injEq] at h2
                obtain ⟨rfl, rfl⟩ := h2
                simp only [List.length_append, List.length_cons, List.length_nil]
                exact ⟨by omega, a1.2.1, fun _ => by omega⟩
              · simp at h
            · split at h
              · obtain ⟨p1, c1, c2, h1, h2, rfl⟩ := sq_some h
                have a1 := ih _ _ _ _ _ hp h1
                have a2 := ih _ _ _ _ _ a1.2.1 h2
                have a3 := a1.2.2 (by decide)
                simp only [List.length_append]
                exact ⟨by omega, a2.2.1, fun _ => by omega⟩
              · obtain ⟨p1, c1, c2, h1, h2, rfl⟩ := sq_some h
                have a1 := ih _ _ _ _ _ hp h1
                have a2 := ih _ _ _ _ _ a1.2.1 h2
                have a3 := a1.2.2 (by decide)
                simp only [List.length_append]
                exact ⟨by omega, a2.2.1, fun _ => by omega⟩
end
/-- what stands behind a condition -/
def pcs (tx : Nat → Nat) (ln f q : Nat) : PR := sq (acc tx ln 63 q) (fun q2 => sq (em (-63) q2) (fun q3 => pz tx ln f 2 0 q3))
/-- a clause, but for its end -/
def pc0 (tx : Nat → Nat) (ln f p : Nat) : PR :=
  sq (acc tx ln 121 p) (fun q0 => sq (acc tx ln 58 q0) (fun q =>
    if lk tx ln q = 33 ∨ lk tx ln q = 40 then sq (pz tx ln f 0 0 (sk tx ln q)) (pcs tx ln f)
    else sq (pz tx ln f 2 0 (sk tx ln q)) (fun e => if isS (lk tx ln e) then sq (pz tx ln f 11 0 (sk tx ln e)) (pcs tx ln f) else (sk tx ln e, some []))))
def pcl (tx : Nat → Nat) (ln f p : Nat) : PR := sq (pc0 tx ln f p) (em (-59))
/-- a law -/
def pla (tx : Nat → Nat) (ln f : Nat) : Nat → Nat → PR
  | 0, p => (p, none)
  | j + 1, p => sq (pcl tx ln f p) (fun q => if lk tx ln q = -1 then (sk tx ln q, some []) else if lk tx ln q = 59 then pla tx ln f j (sk tx ln q + 1) else (sk tx ln q, none))
def plaw (tx : Nat → Nat) (ln : Nat) : PR := pla tx ln (8 * ln + 8) (ln + 1) 0
theorem pcs_ok {tx : Nat → Nat} {ln f p q : Nat} {c : List Int32} (hp : p ≤ ln) (h : pcs tx ln f p = (q, some c)) : p + c.length ≤ q ∧ q ≤ ln := by
  obtain ⟨p1, c1, c2, h1, h2, rfl⟩ := sq_some h
  obtain ⟨a1, a2, rfl, -⟩ := acc_ok (by decide) hp h1
  obtain ⟨p2, c3, c4, h3, h4, rfl⟩ := sq_some h2
  simp only [em, Prod.mk.injEq, Option.some.injEq] at h3
  obtain ⟨rfl, rfl⟩ := h3
  have b := pz_ok _ _ _ _ _ _ a2 h4
  simp only [List.length_append, List.length_cons, List.length_nil]
  exact ⟨by omega, b.2.1⟩
theorem pc0_ok {tx : Nat → Nat} {ln f p q : Nat} {c : List Int32} (hp : p ≤ ln) (h : pc0 tx ln f p = (q, some c)) : p + 2 + c.length ≤ q ∧ q ≤ ln := by
  obtain ⟨p1, c1, c2, h1, h2, rfl⟩ := sq_some h
  obtain ⟨a1, a2, rfl, -⟩ := acc_ok (by decide) hp h1
  obtain ⟨p2, c3, c4, h3, h4, rfl⟩ := sq_some h2
  obtain ⟨b1, b2, rfl, -⟩ := acc_ok (by decide) a2 h3
  have g1 := sk_ge (tx := tx) (ln := ln) (p := p2)
  have g2 := sk_le (tx := tx) b2
  split at h4
  · obtain ⟨p3, c5, c6, h5, h6, rfl⟩ := sq_some h4
    have e1 := pz_ok _ _ _ _ _ _ g2 h5
    have e2 := pcs_ok e1.2.1 h6
    simp only [List.length_append, List.nil_append]
    exact ⟨by omega, e2.2⟩
  · obtain ⟨p3, c5, c6, h5, h6, rfl⟩ := sq_some h4
    have e1 := pz_ok _ _ _ _ _ _ g2 h5
    have g3 := sk_ge (tx := tx) (ln := ln) (p := p3)
    have g4 := sk_le (tx := tx) e1.2.1
    split at h6
    · obtain ⟨p4, c7, c8, h7, h8, rfl⟩ := sq_some h6
      have e3 := pz_ok _ _ _ _ _ _ g4 h7
      have e4 := pcs_ok e3.2.1 h8
      simp only [List.length_append, List.nil_append]
      exact ⟨by omega, e4.2⟩
    · simp only [Prod.mk.injEq, Option.some.injEq] at h6
      obtain ⟨rfl, rfl⟩ := h6
      simp only [List.length_append, List.nil_append, List.length_nil]
      exact ⟨by omega, g4⟩
