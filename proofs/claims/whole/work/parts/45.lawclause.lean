/-! HOW THE CLASS READS A LAW: clauses, the whole -/
section
variable {G : zG} {d : Nat} {I : Nat → Nat → Int32} {J : Nat → Nat → Int64} {R : Nat → Nat → Option Nat} {K : Nat → Nat × Nat} {n : Nat} {t l ln : Nat} {tx : Nat → Nat} {Q : Option Value → zH → Prop} {cs : List Int32}
theorem cl_if {q f : Nat} (S : hLrd G R K n l t) (hlt : t + 1 < l) (V : TP I t ln tx) (hq : q ≤ ln) (hc : cs.length ≤ q) (hf : 8 * ln + 8 ≤ f) (hP : PO Q I J R K n t l cs (pcs tx ln f q)) :
    zC G (d + 28) mX9_accept 0 0 [.ref t, .int 63] (zU (LC I l cs) t 2 (nI q), J, R, K, n) (fun r h => ∃ (x15 : Int32) (I16 : Nat → Nat → Int32), r = some (.int x15) ∧ h = (I16, J, R, K, n) ∧ ((x15 = 0 → Q (some (.int (0))) (I16, J, R, K, n)) ∧ (¬ (x15 = 0) → zC G (d + 28) mX3_emit 0 0 [.ref (l), .int ((-63))] (I16, J, R, K, n) (fun r h => ∃ (x18 : Int32) (I19 : Nat → Nat → Int32), r = some (.int x18) ∧ h = (I19, J, R, K, n) ∧ ((x18 = 0 → Q (some (.int (0))) (I19, J, R, K, n)) ∧ (¬ (x18 = 0) → zC G (d + 28) mX3_readRow 0 0 [.ref (l), .int (2), .int (0), .int (0)] (I19, J, R, K, n) (fun r h => ∃ (x21 : Int32) (I22 : Nat → Nat → Int32), r = some (.int x21) ∧ h = (I22, J, R, K, n) ∧ Q (some (.int ((if x21 = 0 then 0 else 1)))) (I22, J, R, K, n)))))))) := by
  have hl := V.1
  have g1 := sk_ge (tx := tx) (ln := ln) (p := q)
  have g2 := sk_le (tx := tx) hq
  unfold pcs at hP
  refine c_accept (Lrd_4 S) (V.lc hlt cs) hq (fun h => ?_) (fun h => ?_)
  · have e1 : acc tx ln 63 q = (sk tx ln q + 1, some []) := if_pos h
    have hk := lk_lt (p := q) (tx := tx) (ln := ln) (by rw [h]; decide)
    have hP1 := hP.sq2 (c := []) (by rw [e1])
    rw [e1, List.append_nil] at hP1
    have hP2 := hP1.sq2 (c := [-63]) rfl
    refine ⟨_, _, rfl, rfl, fun h => absurd h (by decide), fun _ => ?_⟩
    refine c_emit S hlt (by omega) ?_
    refine ⟨_, _, rfl, rfl, ?_⟩
    refine ⟨fun h => absurd h (by decide), fun _ => ?_⟩
    refine (cl_all S hlt V f).1 2 0 (sk tx ln q + 1) (d + 28) (cs ++ [-63]) _ (by omega) (by omega) (by omega) (by simp; omega) (by have : cm 2 = 3 := rfl; omega) (by have : fr 2 0 = 25 := rfl; omega) ⟨fun c hc2 => ⟨_, _, rfl, rfl, ?_⟩, fun hn cs' => ⟨_, _, rfl, rfl, ?_⟩⟩
    · rw [if_neg (by decide)]
      exact hP2.1 c hc2
    · rw [if_pos rfl]
      exact hP2.2 hn cs'
  · have e1 : acc tx ln 63 q = (sk tx ln q, none) := if_neg h
    have := hP.sq1 (by rw [e1]) cs
    rw [e1] at this
    exact ⟨_, _, rfl, rfl, fun _ => this, fun h => absurd rfl h⟩
theorem c_lclause {p f : Nat} (S : hLrd G R K n l t) (hlt : t + 1 < l) (V : TP I t ln tx) (hp : p ≤ ln) (hc : cs.length ≤ p) (hf : 8 * ln + 8 ≤ f) (hP : PO Q I J R K n t l cs (pc0 tx ln f p)) : zC G (d + 29) mX3_readClause 0 0 [.ref l] (zU (LC I l cs) t 2 (nI p), J, R, K, n) Q := by
  have hl := V.1
  have g1 := sk_ge (tx := tx) (ln := ln) (p := p)
  have g2 := sk_le (tx := tx) hp
  unfold pc0 at hP
  refine zC.of (by decide) (Nat.le_of_ble_eq_true rfl) ?_
  refine wX3_readClause_0 l t S ?_
  refine c_accept (Lrd_4 S) (V.lc hlt cs) hp (fun h => ?_) (fun h => ?_)
  · have e1 : acc tx ln 121 p = (sk tx ln p + 1, some []) := if_pos h
    have hk := lk_lt (p := p) (tx := tx) (ln := ln) (by rw [h]; decide)
    have hP1 := hP.sq2 (c := []) (by rw [e1])
    rw [e1, List.append_nil] at hP1
    simp only at hP1
    clear hP
    generalize hq0 : sk tx ln p + 1 = q0 at hP1 ⊢
    have hq0l : q0 ≤ ln := by omega
    have g3 := sk_ge (tx := tx) (ln := ln) (p := q0)
    have g4 := sk_le (tx := tx) hq0l
    refine ⟨_, _, rfl, rfl, fun h => absurd h (by decide), fun _ => ?_⟩
    refine c_accept (Lrd_4 S) (V.lc hlt cs) hq0l (fun h => ?_) (fun h => ?_)
    · have e2 : acc tx ln 58 q0 = (sk tx ln q0 + 1, some []) := if_pos h
      have hk2 := lk_lt (p := q0) (tx := tx) (ln := ln) (by rw [h]; decide)
      have hP2 := hP1.sq2 (c := []) (by rw [e2])
      rw [e2, List.append_nil] at hP2
      simp only at hP2
      clear hP1
      generalize hq1 : sk tx ln q0 + 1 = q1 at hP2 ⊢
      have hq1l : q1 ≤ ln := by omega
      have g5 := sk_ge (tx := tx) (ln := ln) (p := q1)
      have g6 := sk_le (tx := tx) hq1l
      refine ⟨_, _, rfl, rfl, fun h => absurd h (by decide), fun _ => ?_⟩
      refine c_next (Lrd_4 S) (V.lc hlt cs) hq1l ?_
      refine ⟨_, _, rfl, rfl, ?_⟩
      by_cases hx : lk tx ln q1 = 33 ∨ lk tx ln q1 = 40
      · rw [if_pos hx] at hP2
        have hfl : (if lk tx ln q1 = 33 then (0 : Int32) else (if lk tx ln q1 = 40 then 0 else 1)) = 0 := by
          rcases hx with h | h
          · rw [if_pos h]
          · rw [if_pos h, ite_self]
        rw [hfl]
        refine ⟨fun _ => ?_, fun h => absurd rfl h⟩
        refine (cl_all S hlt V f).1 0 0 (sk tx ln q1) (d + 28) cs _ (by omega) (by omega) g6 (by omega) (by have : cm 0 = 6 := rfl; omega) (by have : fr 0 0 = 28 := rfl; omega) ⟨fun c hc2 => ⟨_, _, rfl, rfl, fun h => absurd h (by decide), fun _ => ?_⟩, fun hn cs' => ⟨_, _, rfl, rfl, fun _ => hP2.sq1 hn cs', fun h => absurd rfl h⟩⟩
        have hb := pz_ok (tx := tx) (ln := ln) f 0 0 (sk tx ln q1) (pz tx ln f 0 0 (sk tx ln q1)).1 c g6 (by rw [← hc2])
        exact cl_if S hlt V hb.2.1 (by simp; omega) hf (hP2.sq2 hc2)
      · rw [if_neg hx] at hP2
        have hfl : (if lk tx ln q1 = 33 then (0 : Int32) else (if lk tx ln q1 = 40 then 0 else 1)) = 1 := by
          rw [if_neg (fun h => hx (Or.inl h)), if_neg (fun h => hx (Or.inr h))]
        rw [hfl]
        refine ⟨fun h => absurd h (by decide), fun _ => ?_⟩
        refine (cl_all S hlt V f).1 2 0 (sk tx ln q1) (d + 28) cs _ (by omega) (by omega) g6 (by omega) (by have : cm 2 = 3 := rfl; omega) (by have : fr 2 0 = 25 := rfl; omega) ⟨fun c hc2 => ⟨_, _, rfl, rfl, fun h => absurd h (by decide), fun _ => ?_⟩, fun hn cs' => ⟨_, _, rfl, rfl, fun _ => hP2.sq1 hn cs', fun h => absurd rfl h⟩⟩
        have hb := pz_ok (tx := tx) (ln := ln) f 2 0 (sk tx ln q1) (pz tx ln f 2 0 (sk tx ln q1)).1 c g6 (by rw [← hc2])
        have hP3 := hP2.sq2 hc2
        generalize (pz tx ln f 2 0 (sk tx ln q1)).1 = e at hb hP3 ⊢
        have g7 := sk_ge (tx := tx) (ln := ln) (p := e)
        have g8 := sk_le (tx := tx) hb.2.1
        refine c_next (Lrd_4 S) (V.lc hlt _) hb.2.1 ?_
        refine ⟨_, _, rfl, rfl, ?_⟩
        refine c_cmps ?_
        refine ⟨_, _, rfl, rfl, ?_⟩
        by_cases hj : isS (lk tx ln e) = true
        · rw [if_pos hj] at hP3 ⊢
          refine ⟨fun h => absurd h (by decide), fun _ => ?_⟩
          refine (cl_all S hlt V f).2.1 0 0 (sk tx ln e) (d + 28) (cs ++ c) _ (by omega) (by omega) g8 (by simp; omega) (by have : cm (11 + 0) = 3 := rfl; omega) (by have : fr (11 + 0) 0 = 28 := rfl; omega) ⟨fun c2 hc3 => ⟨_, _, rfl, rfl, fun h => absurd h (by decide), fun _ => ?_⟩, fun hn cs' => ⟨_, _, rfl, rfl, fun _ => hP3.sq1 hn cs', fun h => absurd rfl h⟩⟩
          have hb2 := pz_ok (tx := tx) (ln := ln) f 11 0 (sk tx ln e) (pz tx ln f 11 0 (sk tx ln e)).1 c2 g8 (by rw [← hc3])
          exact cl_if S hlt V hb2.2.1 (by simp; omega) hf (hP3.sq2 hc3)
        · rw [if_neg hj] at hP3 ⊢
          refine ⟨fun _ => ?_, fun h => absurd rfl h⟩
          have := hP3.1 [] rfl
          rw [List.append_nil] at this
          exact this
    · have e2 : acc tx ln 58 q0 = (sk tx ln q0, none) := if_neg h
      have := hP1.sq1 (by rw [e2]) cs
      rw [e2] at this
      exact ⟨_, _, rfl, rfl, fun _ => this, fun h => absurd rfl h⟩
  · have e1 : acc tx ln 121 p = (sk tx ln p, none) := if_neg h
    have := hP.sq1 (by rw [e1]) cs
    rw [e1] at this
    exact ⟨_, _, rfl, rfl, fun _ => this, fun h => absurd rfl h⟩
theorem l_lread {f : Nat} (S : hLrd G R K n l t) (hlt : t + 1 < l) (V : TP I t ln tx) (hf : 8 * ln + 8 ≤ f) : ∀ (j i p : Nat) (cs : List Int32), ln < p + j → p ≤ ln → 2 * i ≤ p → cs.length ≤ p → PO Q I J R K n t l cs (pla tx ln f j p) → zV G (d + 30) mX3_read 0 0 20 [(0, .ref l), (1, .ref t), (2, .int (nI i))] [] (zU (LC I l cs) t 2 (nI p), J, R, K, n) Q := by
  have hl := V.1
  intro j
  induction j with
  | zero => intro i p cs h1 h2; omega
  | succ j ih =>
    intro i p cs h1 hp hi hc hP
    rw [pla] at hP
    refine wX3_read_20 l t S (Lrd_4 S) _ ⟨fun h => ?_, fun _ => ?_⟩
    · rw [show (240 : Int32) = nI 240 from rfl, tk_le (by omega) (by omega)] at h
      omega
    · refine c_lclause S hlt V hp hc hf ⟨fun c hc2 => ⟨_, _, rfl, rfl, fun h => absurd h (by decide), fun _ => ?_⟩, fun hn cs' => ⟨_, _, rfl, rfl, fun _ => ?_, fun h => absurd rfl h⟩⟩
      · have hb := pc0_ok (tx := tx) (ln := ln) (f := f) (p := p) (q := (pc0 tx ln f p).1) (c := c) hp (by rw [← hc2])
        refine c_emit S hlt (by simp; omega) ?_
        refine ⟨_, _, rfl, rfl, ?_⟩
        refine ⟨fun h => absurd h (by decide), fun _ => ?_⟩
        have e1 : pcl tx ln f p = ((pc0 tx ln f p).1, some (c ++ [-59])) := sq_some2 hc2 rfl
        rw [e1] at hP
        have hP1 := hP.sq2 rfl
        rw [← List.append_assoc] at hP1
        simp only at hP1
        generalize (pc0 tx ln f p).1 = q at hb hP1 ⊢
        have g1 := sk_ge (tx := tx) (ln := ln) (p := q)
        have g2 := sk_le (tx := tx) hb.2
        refine c_next (Lrd_4 S) (V.lc hlt _) hb.2 ?_
        refine ⟨_, _, rfl, rfl, ?_⟩
        refine ⟨fun h => ?_, fun h => ?_⟩
        · rw [if_pos h] at hP1
          have := hP1.1 [] rfl
          rw [List.append_nil] at this
          exact this
        · rw [if_neg h] at hP1
          have hk := lk_lt h
          refine c_accept (Lrd_4 S) (V.lc hlt _) g2 (fun h2 => ?_) (fun h2 => ?_)
          · rw [lk_sk] at h2
            rw [if_pos h2] at hP1
            refine ⟨_, _, rfl, rfl, fun h => absurd h (by decide), fun _ => ?_⟩
            rw [sk_sk, nI_1]
            exact ih (i + 1) _ _ (by omega) (by omega) (by omega) (by simp; omega) hP1
          · rw [lk_sk] at h2
            rw [if_neg h2] at hP1
            refine ⟨_, _, rfl, rfl, fun _ => ?_, fun h => absurd rfl h⟩
            rw [sk_sk]
            exact hP1.2 rfl _
      · have e1 : pcl tx ln f p = ((pc0 tx ln f p).1, none) := sq_none1 hn
        rw [e1] at hP
        exact hP.sq1 rfl cs'
theorem c_lread (S0 : hLr0 G R K n l) (S1 : hTape G R K n t) (hlt : t + 1 < l) (V : TP I t ln tx) (hP : PO Q I J (zU R l 2 (some t)) K n t l [] (plaw tx ln)) : zC G (d + 30) mX3_read 0 0 [.ref l, .ref t] (I, J, R, K, n) Q := by
  refine zC.of (by decide) (Nat.le_of_ble_eq_true rfl) ?_
  refine wX3_read_0 l t S0 S1 ?_
  rintro R1 rfl
  have ST : hTape G (zU R l 2 (some t)) K n t := ⟨S1.1, by rw [zU_off (by omega)]; exact S1.2.1, S1.2.2⟩
  have SL : hLrd G (zU R l 2 (some t)) K n l t := ⟨S0.1, by rw [zU_ne (by omega)]; exact S0.2.1, S0.2.2, zU_self .., ST⟩
  refine ⟨SL, ST, ?_⟩
  rintro I4 rfl I5 rfl
  have e : zU (zU I t 2 0) l 1 0 = zU (LC I l []) t 2 (nI 0) := by
    rw [LC_nil]
    funext b k
    by_cases h1 : b = l ∧ k = 1
    · obtain ⟨rfl, rfl⟩ := h1
      rw [zU_self, zU_ne (by omega), zU_self]
    · rw [zU_ne h1]
      by_cases h2 : b = t ∧ k = 2
      · obtain ⟨rfl, rfl⟩ := h2
        rw [zU_self, zU_self]; rfl
      · rw [zU_ne h2, zU_ne h2, zU_ne h1]
  rw [e]
  exact l_lread SL hlt V (Nat.le_refl _) (ln + 1) 0 0 [] (by omega) (by omega) (by omega) (by simp) hP
end
