/-! HOW THE MODEL GOES THROUGH A LAW -/
/-- a sign that no piece of a clause but its end has -/
theorem pz_n59 {tx : Nat → Nat} {ln : Nat} : ∀ (f md d p q : Nat) (c : List Int32), p ≤ ln → pz tx ln f md d p = (q, some c) → ∀ x ∈ c, x ≠ -59 := by
  intro f
  induction f with
  | zero =>
    intro md d p q c hp h
    simp [pz] at h
  | succ f ih =>
    intro md d p q c hp h
    have g2 := sk_le (tx := tx) hp
    have hap : ∀ {a b : List Int32}, (∀ x ∈ a, x ≠ -59) → (∀ x ∈ b, x ≠ -59) → ∀ x ∈ a ++ b, x ≠ -59 := by
      intro a b h1 h2 x hx
      rcases List.mem_append.mp hx with h | h
      · exact h1 x h
      · exact h2 x h
    have h1 : ∀ {y : Int32}, y ≠ -59 → ∀ x ∈ [y], x ≠ -59 := by
      intro y hy x hx
      rw [List.mem_singleton.mp hx]
      exact hy
    rw [pz] at h
    split at h
    · obtain ⟨p1, c1, c2, h1, h2, rfl⟩ := sq_some h
      have a1 := pz_ok _ _ _ _ _ _ hp h1
      exact hap (ih _ _ _ _ _ hp h1) (ih _ _ _ _ _ a1.2.1 h2)
    · split at h
      · split at h
        · rename_i hj
          obtain ⟨p1, c1, c2, h2, h3, rfl⟩ := sq_some h
          obtain ⟨p2, c3, c4, h4, h5, rfl⟩ := sq_some h2
          have hl := lk_lt (jn_ne hj)
          have a1 := pz_ok _ _ _ _ _ _ (by omega) h4
          simp only [em, Prod.mk.injEq, Option.some.injEq] at h5
          obtain ⟨rfl, rfl⟩ := h5
          refine hap (hap (ih _ _ _ _ _ (by omega) h4) (h1 ?_)) (ih _ _ _ _ _ a1.2.1 h3)
          unfold jn at hj
          split at hj
          · rw [of_decide_eq_true hj]; decide
          · split at hj
            · rw [of_decide_eq_true hj]; decide
            · split at hj
              · simp only [Bool.or_eq_true, decide_eq_true_eq] at hj
                rcases hj with h | h <;> rw [h] <;> decide
              · simp only [Bool.or_eq_true, decide_eq_true_eq] at hj
                rcases hj with h | h <;> rw [h] <;> decide
        · simp only [Prod.mk.injEq, Option.some.injEq] at h
          obtain ⟨rfl, rfl⟩ := h
          intro x hx
          cases hx
      · split at h
        · split at h
          · rename_i hc
            split at h
            · obtain ⟨p1, c1, c2, h2, h3, rfl⟩ := sq_some h
              have hl := lk_lt (p := p) (tx := tx) (ln := ln) (by rw [hc]; decide)
              simp only [em, Prod.mk.injEq, Option.some.injEq] at h3
              obtain ⟨rfl, rfl⟩ := h3
              exact hap (ih _ _ _ _ _ (by omega) h2) (h1 (by decide))
            · simp at h
          · split at h
            · rename_i hc
              split at h
              · obtain ⟨p1, c1, c2, h2, h3, rfl⟩ := sq_some h
                have hl := lk_lt (p := p) (tx := tx) (ln := ln) (by rw [hc]; decide)
                have a1 := pz_ok _ _ _ _ _ _ (by omega) h2
                obtain ⟨b1, b2, rfl, -⟩ := acc_ok (by decide) a1.2.1 h3
                exact hap (ih _ _ _ _ _ (by omega) h2) (fun x hx => by cases hx)
              · simp at h
            · obtain ⟨p1, c1, c2, h2, h3, rfl⟩ := sq_some h
              have a1 := pz_ok _ _ _ _ _ _ g2 h2
              exact hap (ih _ _ _ _ _ g2 h2) (ih _ _ _ _ _ a1.2.1 h3)
        · split at h
          · split at h
            · rename_i hc
              split at h
              · obtain ⟨p1, c1, c2, h2, h3, rfl⟩ := sq_some h
                have hl := lk_lt (p := p) (tx := tx) (ln := ln) (by rw [hc]; decide)
                have a1 := pz_ok _ _ _ _ _ _ (by omega) h2
                obtain ⟨b1, b2, rfl, -⟩ := acc_ok (by decide) a1.2.1 h3
                exact hap (ih _ _ _ _ _ (by omega) h2) (fun x hx => by cases hx)
              · simp at h
            · split at h
              · simp only [Prod.mk.injEq, Option.map_eq_some_iff] at h
                obtain ⟨rfl, v, hv, rfl⟩ := h
                have a1 := nmA_ok (q := (nmA tx ln 4 (sk tx ln p)).1) (v := v) g2 (by rw [← hv]) (by decide)
                refine h1 (fun h => ?_)
                have h2 := congrArg Int32.toInt h
                rw [nI_toInt (by omega)] at h2
                have h3 : (-59 : Int32).toInt = -59 := rfl
                rw [h3] at h2
                omega
              · rename_i hi
                simp only [Prod.mk.injEq, Option.some.injEq] at h
                obtain ⟨rfl, rfl⟩ := h
                obtain ⟨k, -, k2, k3, -⟩ := idxF_spec 3 (lk tx ln p) (lenA 3) 0 hi
                have k5 : k < 6 := by have := (lenA_le 3 (by decide)).2; omega
                have k6 : idxA 3 (lk tx ln p) = nI k := k3
                refine h1 (fun h => ?_)
                rw [k6, show (10000 : Int32) + nI k = nI (10000 + k) from nI_add _ _] at h
                have h2 := congrArg Int32.toInt h
                rw [nI_toInt (by omega)] at h2
                have h3 : (-59 : Int32).toInt = -59 := rfl
                rw [h3] at h2
                omega
          · split at h
            · split at h
              · rename_i hj
                obtain ⟨p1, c1, c2, h2, h3, rfl⟩ := sq_some h
                have hl := lk_lt (isS_ne hj)
                simp only [em, Prod.mk.injEq, Option.some.injEq] at h3
                obtain ⟨rfl, rfl⟩ := h3
                refine hap (ih _ _ _ _ _ (by omega) h2) (h1 ?_)
                unfold isS at hj
                simp only [Bool.or_eq_true, decide_eq_true_eq] at hj
                rcases hj with (h | h) | h <;> rw [h] <;> decide
              · simp at h
            · split at h
              · obtain ⟨p1, c1, c2, h2, h3, rfl⟩ := sq_some h
                have a1 := pz_ok _ _ _ _ _ _ hp h2
                exact hap (ih _ _ _ _ _ hp h2) (ih _ _ _ _ _ a1.2.1 h3)
              · obtain ⟨p1, c1, c2, h2, h3, rfl⟩ := sq_some h
                have a1 := pz_ok _ _ _ _ _ _ hp h2
                exact hap (ih _ _ _ _ _ hp h2) (ih _ _ _ _ _ a1.2.1 h3)
/-- what clauses give: a value, or nothing -/
def CV (L : Nat → Int32) (c : List Int32) (o : Option Int32) : Prop := ∀ (code : Nat → Int32) (C i : Nat), (∀ j, j < c.length → code (i + j) = c.getD j 0) → i + c.length ≤ C → runA code C L (C + 1 - i) i [] = match o with | some v => v | none => runA code C L (C + 1 - (i + c.length)) (i + c.length) []
section
variable {L : Nat → Int32} {c c1 c2 : List Int32} {o : Option Int32} {v : Int32}
theorem CV.nil : CV L [] none := fun _ _ _ _ _ => rfl
theorem CV.seq (h1 : CV L c1 none) (h2 : CV L c2 o) : CV L (c1 ++ c2) o := by
  intro code C i hc hC
  rw [List.length_append] at hc hC ⊢
  rw [h1 code C i (fun j hj => by rw [hc j (by omega), getD_l hj]) (by omega)]
  simp only
  rw [h2 code C (i + c1.length) (fun j hj => by rw [Nat.add_assoc, hc (c1.length + j) (by omega), getD_r]) (by omega), Nat.add_assoc]
theorem CV.first (h1 : CV L c1 (some v)) : CV L (c1 ++ c2) (some v) := by
  intro code C i hc hC
  rw [List.length_append] at hc hC
  exact h1 code C i (fun j hj => by rw [hc j (by omega), getD_l hj]) (by omega)
theorem CV.or {o1 : Option Int32} (h1 : CV L c1 o) (h2 : CV L c2 o1) : CV L (c1 ++ c2) (o.or o1) := by
  cases o with
  | none => exact h1.seq h2
  | some v => exact h1.first
theorem run_end {code : Nat → Int32} {C i : Nat} (hi : i + 1 ≤ C) (h : code i = -59) : runA code C L (C + 1 - i) i [v] = v := by
  rw [show C + 1 - i = (C - i) + 1 by omega, runA, if_neg (by omega), h, if_pos (by decide), if_neg (by simp), if_pos rfl]
  rfl
theorem runA_fuel {code : Nat → Int32} {C : Nat} : ∀ (f g i : Nat) (st : List Int32), C < i + f → C < i + g → runA code C L f i st = runA code C L g i st
  | 0, 0, i, st, _, _ => rfl
  | 0, g + 1, i, st, h1, _ => by rw [runA, runA, if_pos (by omega)]
  | f + 1, 0, i, st, _, h2 => by rw [runA, runA, if_pos (by omega)]
  | f + 1, g + 1, i, st, h1, h2 => by
    have e1 : ∀ st', runA code C L f (i + 1) st' = runA code C L g (i + 1) st' := fun st' => runA_fuel f g (i + 1) st' (by omega) (by omega)
    have e2 : ∀ st', runA code C L f (endA code C (C - i) i + 1) st' = runA code C L g (endA code C (C - i) i + 1) st' := fun st' => runA_fuel f g (endA code C (C - i) i + 1) st' (by have := endA_ge code C (C - i) i; omega) (by have := endA_ge code C (C - i) i; omega)
    rw [runA, runA]
    simp only [e1, e2]
theorem run_if {code : Nat → Int32} {C i f : Nat} {b : Int32} (hi : i + 1 ≤ C) (h : code i = -63) : runA code C L (f + 1) i [b] = if b = 0 then runA code C L f (endA code C (C - i) i + 1) [] else runA code C L f (i + 1) [] := by
  rw [runA, if_neg (by omega), h, if_pos (by decide), if_neg (by simp), if_neg (by decide), if_pos rfl]
  by_cases hb : b = 0
  · rw [if_pos hb]
    exact if_pos hb
  · rw [if_neg hb]
    exact if_neg hb
theorem CV.plain {h : Nat} (F : FR L c [] [v] h) (hh : h ≤ 32) : CV L (c ++ [-59]) (some v) := by
  intro code C i hc hC
  rw [List.length_append] at hc hC
  have hl : [(-59 : Int32)].length = 1 := rfl
  rw [hl] at hc hC
  have h1 := F code C i [] (fun j hj => by rw [hc j (by omega), getD_l hj]) (by omega) (by simpa using hh)
  rw [List.append_nil, List.append_nil] at h1
  rw [h1]
  exact run_end (by omega) (by rw [hc c.length (by omega)]; exact getD_r (j := 0))
theorem endA_at {code : Nat → Int32} {C : Nat} : ∀ (k f i : Nat), (∀ j, j < k → code (i + j) ≠ -59) → code (i + k) = -59 → i + k < C → k < f → endA code C f i = i + k
  | k, 0, i, _, _, _, h => absurd h (by omega)
  | 0, f + 1, i, _, h2, h3, _ => by rw [endA, if_neg (by omega), if_pos (show code i = -59 from h2)]; rfl
  | k + 1, f + 1, i, h1, h2, h3, h4 => by
    rw [endA, if_neg (by omega), if_neg (show ¬ code i = -59 from h1 0 (by omega)), endA_at k f (i + 1) (fun j hj => by rw [Nat.add_assoc, Nat.add_comm 1 j]; exact h1 (j + 1) (by omega)) (by rw [Nat.add_assoc, Nat.add_comm 1 k]; exact h2) (by omega) (by omega)]
    omega
theorem getD_mem {a : List Int32} {j : Nat} (h : j < a.length) : a.getD j 0 ∈ a := by
  rw [List.getD_eq_getElem?_getD, List.getElem?_eq_getElem h]
  exact List.getElem_mem h
theorem CV.cond {h : Nat} {b : Int32} (F : FR L c [] [b] h) (F2 : FR L c1 [] [v] h) (hh : h ≤ 32) (h59 : ∀ x ∈ c1, x ≠ -59) : CV L (c ++ ([-63] ++ c1) ++ [-59]) (if b = 0 then none else some v) := by
  intro code C i hc hC
  rw [List.length_append, List.length_append, List.length_append] at hc hC ⊢
  have hl : [(-59 : Int32)].length = 1 := rfl
  have hl2 : [(-63 : Int32)].length = 1 := rfl
  rw [hl, hl2] at hc hC ⊢
  have e63 : code (i + c.length) = -63 := by
    rw [hc c.length (by omega), getD_l (by simp), show c.length = c.length + 0 from rfl, getD_r]; rfl
  have e1 : ∀ j, j < c1.length → code (i + c.length + 1 + j) = c1.getD j 0 := by
    intro j hj
    have := hc (c.length + (1 + j)) (by omega)
    rw [getD_l (by simp; omega), getD_r, show (1 : Nat) + j = [(-63 : Int32)].length + j from rfl, getD_r] at this
    rw [← this]
    congr 1
    omega
  have e59 : code (i + c.length + 1 + c1.length) = -59 := by
    have := hc (c.length + (1 + c1.length)) (by omega)
    rw [show c.length + (1 + c1.length) = (c ++ ([-63] ++ c1)).length + 0 by simp; omega, getD_r] at this
    rw [show i + c.length + 1 + c1.length = i + ((c ++ ([-63] ++ c1)).length + 0) by simp; omega, this]
    rfl
  have h1 := F code C i [] (fun j hj => by rw [hc j (by omega), getD_l (by simp; omega), getD_l hj]) (by omega) (by simpa using hh)
  rw [List.append_nil, List.append_nil] at h1
  rw [h1, show C + 1 - (i + c.length) = (C - (i + c.length)) + 1 by omega, run_if (by omega) e63]
  by_cases hb : b = 0
  · rw [if_pos hb, if_pos hb]
    simp only
    have e2 := endA_at (code := code) (C := C) (1 + c1.length) (C - (i + c.length)) (i + c.length) (fun j hj => by
      cases j with
      | zero => rw [Nat.add_zero, e63]; decide
      | succ j => rw [show i + c.length + (j + 1) = i + c.length + 1 + j by omega, e1 j (by omega)]; exact h59 _ (getD_mem (by omega))) (by rw [← Nat.add_assoc]; exact e59) (by omega) (by omega)
    rw [e2, show i + c.length + (1 + c1.length) + 1 = i + (c.length + (1 + c1.length) + 1) by omega]
    exact runA_fuel _ _ _ _ (by omega) (by omega)
  · rw [if_neg hb, if_neg hb]
    simp only
    have h2 := F2 code C (i + c.length + 1) [] e1 (by omega) (by simpa using hh)
    rw [List.append_nil, List.append_nil] at h2
    rw [show C - (i + c.length) = C + 1 - (i + c.length + 1) by omega, h2]
    exact run_end (by omega) e59
theorem CV.worth (h : CV L c o) : worthA (fun j => c.getD j 0) c.length L = o.getD 0 := by
  unfold worthA
  have h1 := h (fun j => c.getD j 0) c.length 0 (fun j _ => by rw [Nat.zero_add]) (by omega)
  rw [Nat.sub_zero] at h1
  rw [h1]
  cases o with
  | none =>
    simp only [Option.getD_none]
    rw [show c.length + 1 - (0 + c.length) = 0 + 1 by omega, runA, if_pos (by omega)]
  | some v => rfl
end
/-- the value found so far -/
def HO (I : Nat → Nat → Int32) (m : Nat) (o : Option Int32) : Nat → Nat → Int32 := zU (zU I m 17 (if o.isSome then 1 else 0)) m 14 (o.getD 0)
theorem MH_k {I : Nat → Nat → Int32} {m p k : Nat} {f e v : Int32} (h : k < 10 ∨ 12 < k) : zU (MH I m p f e) m k v = MH (zU I m k v) m p f e := by
  funext b j
  by_cases h1 : b = m
  · subst h1
    by_cases h2 : j = k
    · subst h2
      rw [zU_self, MH_m h, zU_self]
    · rw [zU_ne (by omega)]
      unfold MH
      rw [if_pos rfl, if_pos rfl, zU_ne (by omega)]
  · rw [zU_off h1, MH_b h1, MH_b h1, zU_off h1]
theorem HO_some {I : Nat → Nat → Int32} {m : Nat} {v : Int32} : zU (zU (HO I m none) m 17 1) m 14 v = HO I m (some v) := by
  unfold HO
  funext b j
  by_cases h1 : b = m ∧ j = 14
  · obtain ⟨rfl, rfl⟩ := h1
    rw [zU_self, zU_self]; rfl
  · rw [zU_ne h1, zU_ne h1]
    by_cases h2 : b = m ∧ j = 17
    · obtain ⟨rfl, rfl⟩ := h2
      rw [zU_self, zU_self]; rfl
    · rw [zU_ne h2, zU_ne h2, zU_ne h1, zU_ne h2]
