/-! HOW THE MODEL READS A LAW, AND WHAT IT GIVES -/
theorem sq_le {ln : Nat} {a : PR} {k : Nat → PR} (h1 : a.1 ≤ ln) (h2 : ∀ q, q ≤ ln → (k q).1 ≤ ln) : (sq a k).1 ≤ ln := by
  cases h : a.2 with
  | none => rw [sq_none1 h]; exact h1
  | some c =>
    cases h3 : (k a.1).2 with
    | none => rw [sq_none2 h h3]; exact h2 _ h1
    | some c2 => rw [sq_some2 h h3]; exact h2 _ h1
theorem acc_le {tx : Nat → Nat} {ln p : Nat} {s : Int32} (hs : s ≠ -1) (hp : p ≤ ln) : (acc tx ln s p).1 ≤ ln := by
  have g := sk_le (tx := tx) hp
  unfold acc
  split
  · rename_i h
    have := lk_lt (p := p) (tx := tx) (ln := ln) (by rw [h]; exact hs)
    exact this
  · exact g
theorem pz_le {tx : Nat → Nat} {ln : Nat} : ∀ (f md d p : Nat), p ≤ ln → (pz tx ln f md d p).1 ≤ ln := by
  intro f
  induction f with
  | zero => intro md d p hp; exact hp
  | succ f ih =>
    intro md d p hp
    have g2 := sk_le (tx := tx) hp
    rw [pz]
    split
    · exact sq_le (ih _ _ _ hp) (fun q hq => ih _ _ _ hq)
    · split
      · split
        · rename_i hj
          have hl := lk_lt (jn_ne hj)
          exact sq_le (sq_le (ih _ _ _ (by omega)) (fun q hq => hq)) (fun q hq => ih _ _ _ hq)
        · exact g2
      · split
        · split
          · rename_i hc
            have hl := lk_lt (p := p) (tx := tx) (ln := ln) (by rw [hc]; decide)
            split
            · exact sq_le (ih _ _ _ (by omega)) (fun q hq => hq)
            · exact g2
          · split
            · rename_i hc
              have hl := lk_lt (p := p) (tx := tx) (ln := ln) (by rw [hc]; decide)
              split
              · exact sq_le (ih _ _ _ (by omega)) (fun q hq => acc_le (by decide) hq)
              · exact g2
            · exact sq_le (ih _ _ _ g2) (fun q hq => ih _ _ _ hq)
        · split
          · split
            · rename_i hc
              have hl := lk_lt (p := p) (tx := tx) (ln := ln) (by rw [hc]; decide)
              split
              · exact sq_le (ih _ _ _ (by omega)) (fun q hq => acc_le (by decide) hq)
              · exact g2
            · split
              · exact nmA_le g2
              · rename_i hi
                exact lk_lt (fun h => by rw [h] at hi; exact hi (by decide))
          · split
            · split
              · rename_i hj
                have hl := lk_lt (isS_ne hj)
                exact sq_le (ih _ _ _ (by omega)) (fun q hq => hq)
              · exact g2
            · split
              · exact sq_le (ih _ _ _ hp) (fun q hq => ih _ _ _ hq)
              · exact sq_le (ih _ _ _ hp) (fun q hq => ih _ _ _ hq)
theorem idxF_spec (i : Nat) (c : Int32) : ∀ j k, idxF i c j k ≠ -1 → ∃ k', k ≤ k' ∧ k' < k + j ∧ idxF i c j k = nI k' ∧ chrA i k' = c
  | 0, k, h => absurd rfl h
  | j + 1, k, h => by
    rw [idxF] at h ⊢
    by_cases hc : chrA i k = c
    · rw [if_pos hc]
      exact ⟨k, by omega, by omega, rfl, hc⟩
    · rw [if_neg hc] at h ⊢
      obtain ⟨k', h1, h2, h3, h4⟩ := idxF_spec i c j (k + 1) h
      exact ⟨k', by omega, by omega, h3, h4⟩
def fm (md e : Nat) : Nat := 6 + 3 * (6 - e) + (if md = 9 then 0 else if md = 3 then 1 else if md = 2 then 2 else if md = 10 then 3 else if md = 8 then 4 else if md = 1 ∨ md = 12 then 5 else 6)
def hm (md e : Nat) : Nat := 2 * (6 - e) + (if md = 9 then 1 else if md = 3 ∨ md = 7 then 2 else if md = 2 ∨ md = 6 then 3 else if md = 8 ∨ md = 10 then 4 else if md = 1 ∨ md = 5 ∨ md = 12 then 5 else 6)
/-- what is wanted behind a part -/
def PM (Q : Option Value → zH → Prop) (I : Nat → Nat → Int32) (J : Nat → Nat → Int64) (R : Nat → Nat → Option Nat) (K : Nat → Nat × Nat) (n m e : Nat) (bl : Bool) (L : Nat → Int32) (h : Nat) (s1 : List Int32) (a : PR) : Prop :=
  (∀ c v, a.2 = some c → FR L c s1 [v] h → v ≠ Int32.minValue → (bl = true → v = 0 ∨ v = 1) → Q (some (.int v)) (MH I m a.1 (-1) (nI e), J, R, K, n)) ∧ (a.2 = none → ∀ v p' e', (bl = true → v = 0 ∨ v = 1) → Q (some (.int v)) (MH I m p' (nI a.1) e', J, R, K, n))
section
variable {G : zG} {d : Nat} {I : Nat → Nat → Int32} {J : Nat → Nat → Int64} {R : Nat → Nat → Option Nat} {K : Nat → Nat × Nat} {n : Nat} {m t c bg ln : Nat} {tx : Nat → Nat} {L : Nat → Int32}
theorem PM.sq1 {Q : Option Value → zH → Prop} {e h : Nat} {bl : Bool} {s1 : List Int32} {a : PR} {k : Nat → PR} (hP : PM Q I J R K n m e bl L h s1 (sq a k)) (ha : a.2 = none) (v : Int32) (p' : Nat) (e' : Int32) (hb : bl = true → v = 0 ∨ v = 1) : Q (some (.int v)) (MH I m p' (nI a.1) e', J, R, K, n) := by
  rw [sq_none1 ha] at hP
  exact hP.2 rfl v p' e' hb
theorem PM.sq2 {Q : Option Value → zH → Prop} {e h : Nat} {bl : Bool} {s1 s2 : List Int32} {a : PR} {k : Nat → PR} {c : List Int32} (hP : PM Q I J R K n m e bl L h s1 (sq a k)) (ha : a.2 = some c) (F : FR L c s1 s2 h) : PM Q I J R K n m e bl L h s2 (k a.1) := by
  cases hk : (k a.1).2 with
  | none =>
    rw [sq_none2 ha hk] at hP
    exact ⟨fun c v h2 => (by rw [hk] at h2; cases h2), fun _ => hP.2 rfl⟩
  | some c2 =>
    rw [sq_some2 ha hk] at hP
    refine ⟨fun c3 v h2 F2 => ?_, fun h2 => (by rw [hk] at h2; cases h2)⟩
    rw [hk] at h2
    cases h2
    exact hP.1 _ v rfl (F.seq F2)
theorem c_within {Q : Option Value → zH → Prop} {x : Int64} (hQ : Q (some (.int (wi x))) (I, J, R, K, n)) : zC G (d + 1) mX12_within 0 0 [.long x] (I, J, R, K, n) Q := by
  refine zC.of (by decide) (Nat.le_of_ble_eq_true rfl) ?_
  refine wX12_within_0 _ ?_
  rw [wi_in]
  exact hQ
theorem c_isSign {Q : Option Value → zH → Prop} {s : Int32} (hQ : Q (some (.int (if isS s then 1 else 0))) (I, J, R, K, n)) : zC G (d + 1) mX12_isSign 0 0 [.int s] (I, J, R, K, n) Q := by
  refine zC.of (by decide) (Nat.le_of_ble_eq_true rfl) ?_
  refine wX12_isSign_0 _ ?_
  unfold isS at hQ
  by_cases h1 : s = 61
  · rw [if_pos (by simp [h1])] at hQ; rw [if_pos h1]; exact hQ
  · rw [if_neg h1]
    by_cases h2 : s = 60
    · rw [if_pos (by simp [h2])] at hQ; rw [if_pos h2]; exact hQ
    · rw [if_neg h2]
      by_cases h3 : s = 62
      · rw [if_pos (by simp [h3])] at hQ; rw [if_pos h3]; exact hQ
      · rw [if_neg (by simp [h1, h2, h3])] at hQ; rw [if_neg h3]; exact hQ

theorem term_f {Q : Option Value → zH → Prop} {p q : Nat} {e v : Int32} (S : hMod G R K n m t c) (hq : q < 1000) (hQ : Q (some (.int v)) (MH I m p (nI q) e, J, R, K, n)) : zV G (d + 1) mX12_term 0 0 5 [(0, .ref m), (1, .int v)] [] (MH I m p (nI q) e, J, R, K, n) Q := by
  refine wX12_term_5 m t c S _ ?_
  rw [MH_at.2.1]
  exact ⟨fun h => absurd ((tk_m1 (by omega)).mp h) id, fun _ => hQ⟩
theorem sum_f {Q : Option Value → zH → Prop} {p q : Nat} {e v : Int32} (S : hMod G R K n m t c) (hq : q < 1000) (hQ : Q (some (.int v)) (MH I m p (nI q) e, J, R, K, n)) : zV G (d + 1) mX12_sum 0 0 5 [(0, .ref m), (1, .int v)] [] (MH I m p (nI q) e, J, R, K, n) Q := by
  refine wX12_sum_5 m t c S _ ?_
  rw [MH_at.2.1]
  exact ⟨fun h => absurd ((tk_m1 (by omega)).mp h) id, fun _ => hQ⟩
theorem part_f {Q : Option Value → zH → Prop} {p q : Nat} {e v l1 l2 : Int32} (S : hMod G R K n m t c) (hq : q < 1000) (hv : v = 0 ∨ v = 1) (hQ : Q (some (.int v)) (MH I m p (nI q) e, J, R, K, n)) : zV G (d + 1) mX12_part 0 0 18 [(0, .ref m), (1, .int l1), (2, .int l2), (3, .int v)] [] (MH I m p (nI q) e, J, R, K, n) Q := by
  refine wX12_part_18 m t c S _ _ _ ?_
  rw [MH_at.2.1]
  exact ⟨fun h => absurd ((tk_m1 (by omega)).mp h) id, fun _ => ⟨hv, hQ⟩⟩
theorem condition_f {Q : Option Value → zH → Prop} {p q : Nat} {e v l1 l2 : Int32} (S : hMod G R K n m t c) (hq : q < 1000) (hv : v = 0 ∨ v = 1) (hQ : Q (some (.int v)) (MH I m p (nI q) e, J, R, K, n)) : zV G (d + 1) mX12_condition 0 0 7 [(0, .ref m), (1, .int l1), (2, .int l2), (3, .int v)] [] (MH I m p (nI q) e, J, R, K, n) Q := by
  refine wX12_condition_7 m t c S _ _ _ ?_
  rw [MH_at.2.1]
  exact ⟨fun h => absurd ((tk_m1 (by omega)).mp h) id, fun _ => ⟨hv, hQ⟩⟩
/-- a comparison behind its first sum -/
theorem cmp_tail {Q : Option Value → zH → Prop} {q e f2 : Nat} {v : Int32} (S : hMod G R K n m t c) (V : TM I m t c bg ln tx) (hq : q ≤ ln) (hf : 8 * (ln - q) + 1 ≤ f2)
    (hS : ∀ (p' : Nat) (Q' : Option Value → zH → Prop), p' ≤ ln → q + 1 ≤ p' → PM Q' I J R K n m e false L (hm 2 e) [] (pz tx ln (f2 - 1) 2 e p') → zC G (d + 2) mX12_sum 0 0 [.ref m] (MH I m p' (-1) (nI e), J, R, K, n) Q')
    (hP : PM Q I J R K n m e true L (hm 10 e) [v] (pz tx ln f2 10 e q)) :
    zC G (d + 2) mX12_look 0 0 [.ref (m)] (MH I m q (-1) (nI e), J, R, K, n) (fun r h => ∃ (x5 : Int32) (I6 : Nat → Nat → Int32), r = some (.int x5) ∧ h = (I6, J, R, K, n) ∧ zC G (d + 2) mX12_isSign 0 0 [.int (x5)] (I6, J, R, K, n) (fun r h => ∃ (x7 : Int32) (I8 : Nat → Nat → Int32), r = some (.int x7) ∧ h = (I8, J, R, K, n) ∧ ((x7 = 0 → zC G (d + 2) mX12_fails 0 0 [.ref (m)] (I8, J, R, K, n) (fun r h => ∃ (x18 : Int32) (I19 : Nat → Nat → Int32), r = some (.int x18) ∧ h = (I19, J, R, K, n) ∧ ((x18 = 0 ∨ x18 = 1) ∧ Q (some (.int (x18))) (I19, J, R, K, n)))) ∧ (¬ (x7 = 0) → (∀ I10 : Nat → Nat → Int32, I10 = zU I8 m 10 ((I8 m 10) + 1) → zC G (d + 2) mX12_sum 0 0 [.ref (m)] (I10, J, R, K, n) (fun r h => ∃ (x11 : Int32) (I12 : Nat → Nat → Int32), r = some (.int x11) ∧ h = (I12, J, R, K, n) ∧ Q (some (.int ((if x5 = 61 then (if v = x11 then 1 else 0) else (if x5 = 60 then (if x11 ≤ v then 0 else 1) else (if v ≤ x11 then 0 else 1)))))) (I12, J, R, K, n))))))) := by
  obtain ⟨f', rfl⟩ : ∃ f', f2 = f' + 1 := ⟨f2 - 1, by omega⟩
  have hl := V.1
  have g1 := sk_ge (tx := tx) (ln := ln) (p := q)
  have g2 := sk_le (tx := tx) hq
  rw [pz, if_neg (by omega), if_neg (by omega), if_neg (by omega), if_neg (by omega), if_pos rfl] at hP
  refine c_look S V hq ?_
  refine ⟨_, _, rfl, rfl, ?_⟩
  refine c_isSign ?_
  refine ⟨_, _, rfl, rfl, ?_⟩
  by_cases hj : isS (lk tx ln q) = true
  · rw [if_pos hj] at hP ⊢
    have hk := lk_lt (isS_ne hj)
    refine ⟨fun h => absurd h (by decide), fun _ => ?_⟩
    rintro _ rfl
    rw [MH_at.1, nI_1, MH_10]
    have hb : ∀ x y z : Int32, (x = 0 ∨ x = 1) → (y = 0 ∨ y = 1) → (z = 0 ∨ z = 1) → ∀ s : Int32, (if s = 61 then x else (if s = 60 then y else z)) = 0 ∨ (if s = 61 then x else (if s = 60 then y else z)) = 1 := by
      intro x y z hx hy hz s
      split
      · exact hx
      · split
        · exact hy
        · exact hz
    have hv2 : ∀ x : Int32, ((if lk tx ln q = 61 then (if v = x then (1 : Int32) else 0) else (if lk tx ln q = 60 then (if x ≤ v then 0 else 1) else (if v ≤ x then 0 else 1))) = 0 ∨ (if lk tx ln q = 61 then (if v = x then (1 : Int32) else 0) else (if lk tx ln q = 60 then (if x ≤ v then 0 else 1) else (if v ≤ x then 0 else 1))) = 1) := fun x => hb _ _ _ (by split <;> simp) (by split <;> simp) (by split <;> simp) _
    refine hS (sk tx ln q + 1) _ (by omega) (by omega) ⟨fun c x hc F hx _ => ⟨_, _, rfl, rfl, ?_⟩, fun hn x p' e' _ => ⟨_, _, rfl, rfl, ?_⟩⟩
    · have e1 : (if lk tx ln q = 61 then (if v = x then (1 : Int32) else 0) else (if lk tx ln q = 60 then (if x ≤ v then 0 else 1) else (if v ≤ x then 0 else 1))) = joinA (lk tx ln q) v x := by
        unfold isS at hj
        simp only [Bool.or_eq_true, decide_eq_true_eq] at hj
        rcases hj with (h | h) | h
        · rw [h, if_pos rfl, join_eq]
        · rw [h, if_neg (by decide), if_pos rfl, join_lt]
        · rw [h, if_neg (by decide), if_neg (by decide), join_gt]
      have e2 := hv2 x
      rw [e1] at e2 ⊢
      have hF : FR L (c ++ [-(lk tx ln q)]) [v] [joinA (lk tx ln q) v x] (hm 10 e) := by
        have e3 : hm 10 e = hm 2 e + 1 := by unfold hm; simp
        rw [e3]
        have hs : -(lk tx ln q) < 0 ∧ -(lk tx ln q) ≠ -59 ∧ -(lk tx ln q) ≠ -63 ∧ -(lk tx ln q) ≠ -33 := by
          unfold isS at hj
          simp only [Bool.or_eq_true, decide_eq_true_eq] at hj
          rcases hj with (h | h) | h <;> rw [h] <;> decide
        exact F.join (by unfold hm; simp) hs.1 hs.2.1 hs.2.2.1 hs.2.2.2
      have hc' : sq (pz tx ln f' 2 e (sk tx ln q + 1)) (em (-(lk tx ln q))) = ((pz tx ln f' 2 e (sk tx ln q + 1)).1, some (c ++ [-(lk tx ln q)])) := sq_some2 hc rfl
      rw [hc'] at hP
      refine hP.1 _ _ rfl hF ?_ (fun _ => e2)
      rcases e2 with h | h <;> rw [h] <;> decide
    · exact hP.sq1 hn _ p' e' (fun _ => hv2 x)
  · rw [if_neg hj] at hP ⊢
    refine ⟨fun _ => ?_, fun h => absurd rfl h⟩
    refine c_fails S ?_
    refine ⟨_, _, rfl, rfl, ?_⟩
    exact ⟨Or.inl rfl, hP.2 rfl 0 _ _ (fun _ => Or.inl rfl)⟩

end
