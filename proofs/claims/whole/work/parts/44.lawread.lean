/-! HOW THE CLASS READS A LAW: units, atoms, rows, clauses -/
section
variable {G : zG} {d : Nat} {I : Nat → Nat → Int32} {J : Nat → Nat → Int64} {R : Nat → Nat → Option Nat} {K : Nat → Nat × Nat} {n : Nat} {t l ln : Nat} {tx : Nat → Nat}
/-- a comparison behind its first sum -/
theorem unit_tail {Q : Option Value → zH → Prop} {cs : List Int32} {q e f2 : Nat} (S : hLrd G R K n l t) (hlt : t + 1 < l) (V : TP I t ln tx) (hq : q ≤ ln) (hc : cs.length ≤ q) (hf : 8 * (ln - q) + 1 ≤ f2)
    (hS : ∀ (p' : Nat) (Q' : Option Value → zH → Prop), p' ≤ ln → cs.length ≤ p' → q + 1 ≤ p' → PO Q' I J R K n t l cs (pz tx ln (f2 - 1) 2 e p') → zC G (d + 2) mX3_readRow 0 0 [.ref l, .int 2, .int (nI e), .int 0] (zU (LC I l cs) t 2 (nI p'), J, R, K, n) Q')
    (hP : PO Q I J R K n t l cs (pz tx ln f2 10 e q)) :
    zC G (d + 2) mX9_next 0 0 [.ref t] (zU (LC I l cs) t 2 (nI q), J, R, K, n) (fun r h => ∃ (x20 : Int32) (I21 : Nat → Nat → Int32), r = some (.int x20) ∧ h = (I21, J, R, K, n) ∧ zC G (d + 2) mX3_compares 0 0 [.int (x20)] (I21, J, R, K, n) (fun r h => ∃ (x22 : Int32) (I23 : Nat → Nat → Int32), r = some (.int x22) ∧ h = (I23, J, R, K, n) ∧ ((x22 = 0 → Q (some (.int (0))) (I23, J, R, K, n)) ∧ (¬ (x22 = 0) → (∀ I25 : Nat → Nat → Int32, I25 = zU I23 t 2 ((I23 t 2) + 1) → zC G (d + 2) mX3_readRow 0 0 [.ref (l), .int (2), .int (nI e), .int (0)] (I25, J, R, K, n) (fun r h => ∃ (x26 : Int32) (I27 : Nat → Nat → Int32), r = some (.int x26) ∧ h = (I27, J, R, K, n) ∧ ((x26 = 0 → Q (some (.int (0))) (I27, J, R, K, n)) ∧ (¬ (x26 = 0) → zC G (d + 2) mX3_emit 0 0 [.ref (l), .int (-x20)] (I27, J, R, K, n) (fun r h => ∃ (x29 : Int32) (I30 : Nat → Nat → Int32), r = some (.int x29) ∧ h = (I30, J, R, K, n) ∧ Q (some (.int ((if x29 = 0 then 0 else 1)))) (I30, J, R, K, n))))))))) ) := by
  obtain ⟨f', rfl⟩ : ∃ f', f2 = f' + 1 := ⟨f2 - 1, by omega⟩
  have hl := V.1
  have g1 := sk_ge (tx := tx) (ln := ln) (p := q)
  have g2 := sk_le (tx := tx) hq
  rw [pz, if_neg (by omega), if_neg (by omega), if_neg (by omega), if_neg (by omega), if_pos rfl] at hP
  refine c_next (Lrd_4 S) (V.lc hlt cs) hq ?_
  refine ⟨_, _, rfl, rfl, ?_⟩
  refine c_cmps ?_
  refine ⟨_, _, rfl, rfl, ?_⟩
  by_cases hj : isS (lk tx ln q) = true
  · rw [if_pos hj] at hP ⊢
    have hk := lk_lt (isS_ne hj)
    refine ⟨fun h => absurd h (by decide), fun _ => ?_⟩
    rintro _ rfl
    rw [zU_two, zU_self, nI_1]
    refine hS (sk tx ln q + 1) _ (by omega) (by omega) (by omega) ⟨fun c hc2 => ⟨_, _, rfl, rfl, fun h => absurd h (by decide), fun _ => ?_⟩, fun hn cs' => ⟨_, _, rfl, rfl, fun _ => hP.sq1 hn cs', fun h => absurd rfl h⟩⟩
    have hb := pz_ok (tx := tx) (ln := ln) f' 2 e (sk tx ln q + 1) (pz tx ln f' 2 e (sk tx ln q + 1)).1 c (by omega) (by rw [← hc2]; rfl)
    refine c_emit S hlt (by simp; omega) ?_
    refine ⟨_, _, rfl, rfl, ?_⟩
    rw [if_neg (by decide)]
    have := (hP.sq2 hc2).1 _ rfl
    exact this
  · rw [if_neg hj] at hP ⊢
    exact ⟨fun _ => hP.2 rfl cs, fun h => absurd rfl h⟩
theorem cl_all (S : hLrd G R K n l t) (hlt : t + 1 < l) (V : TP I t ln tx) : ∀ f : Nat,
    (∀ (r e p D : Nat) (cs : List Int32) (Q : Option Value → zH → Prop), r ≤ 3 → e ≤ 6 → p ≤ ln → cs.length ≤ p → 8 * (ln - p) + cm r ≤ f → fr r e ≤ D → PO Q I J R K n t l cs (pz tx ln f r e p) → zC G D mX3_readRow 0 0 [.ref l, .int (nI r), .int (nI e), .int 0] (zU (LC I l cs) t 2 (nI p), J, R, K, n) Q) ∧
    (∀ (r e p D : Nat) (cs : List Int32) (Q : Option Value → zH → Prop), r ≤ 1 → e ≤ 6 → p ≤ ln → cs.length ≤ p → 8 * (ln - p) + cm (11 + r) ≤ f → fr (11 + r) e ≤ D → PO Q I J R K n t l cs (pz tx ln f (11 + r) e p) → zC G D mX3_readRow 0 0 [.ref l, .int (nI r), .int (nI e), .int 1] (zU (LC I l cs) t 2 (nI p), J, R, K, n) Q) ∧
    (∀ (e p D : Nat) (cs : List Int32) (Q : Option Value → zH → Prop), e ≤ 6 → p ≤ ln → cs.length ≤ p → 8 * (ln - p) + cm 8 ≤ f → fr 8 e ≤ D → PO Q I J R K n t l cs (pz tx ln f 8 e p) → zC G D mX3_readUnit 0 0 [.ref l, .int (nI e), .int 0] (zU (LC I l cs) t 2 (nI p), J, R, K, n) Q) ∧
    (∀ (e p D : Nat) (cs : List Int32) (Q : Option Value → zH → Prop), e ≤ 6 → p ≤ ln → cs.length ≤ p → 8 * (ln - p) + cm 10 ≤ f → fr 10 e ≤ D → PO Q I J R K n t l cs (pz tx ln f 10 e p) → zC G D mX3_readUnit 0 0 [.ref l, .int (nI e), .int 1] (zU (LC I l cs) t 2 (nI p), J, R, K, n) Q) ∧
    (∀ (e p D : Nat) (cs : List Int32) (Q : Option Value → zH → Prop), e ≤ 6 → p ≤ ln → cs.length ≤ p → 8 * (ln - p) + cm 9 ≤ f → fr 9 e ≤ D → PO Q I J R K n t l cs (pz tx ln f 9 e p) → zC G D mX3_readAtom 0 0 [.ref l, .int (nI e)] (zU (LC I l cs) t 2 (nI p), J, R, K, n) Q) ∧
    (∀ (r e p i D : Nat) (cs : List Int32) (s b3 : Int32) (Q : Option Value → zH → Prop), r ≤ 3 → e ≤ 6 → p ≤ ln → cs.length + 1 ≤ p → 1 ≤ i → i + 1 ≤ p → 8 * (ln - p) + cm (elm r) ≤ f → fr r e ≤ D + 3 → PO Q I J R K n t l cs (sq (sq (pz tx ln f (elm r) e p) (em (-s))) (fun q => pz tx ln f (r + 4) e q)) → zV G (D + 3) mX3_readRow 0 0 6 [(0, .ref l), (1, .int (nI r)), (2, .int (nI e)), (3, .int b3), (4, .int s), (5, .int (nI i))] [] (zU (LC I l cs) t 2 (nI p), J, R, K, n) Q) := by
  have hl := V.1
  intro f
  induction f using Nat.strongRecOn with
  | _ f ih =>
  have hA : ∀ (r e p D : Nat) (cs : List Int32) (Q : Option Value → zH → Prop), r ≤ 3 → e ≤ 6 → p ≤ ln → cs.length ≤ p → 8 * (ln - p) + cm r ≤ f → fr r e ≤ D → PO Q I J R K n t l cs (pz tx ln f r e p) → zC G D mX3_readRow 0 0 [.ref l, .int (nI r), .int (nI e), .int 0] (zU (LC I l cs) t 2 (nI p), J, R, K, n) Q := by
    intro r e p D cs Q hr he hp hc hf hD hP
    have hcm : cm (elm r) + 1 ≤ cm r := by
      obtain rfl | rfl | rfl | rfl : r = 0 ∨ r = 1 ∨ r = 2 ∨ r = 3 := by omega
      all_goals decide
    have hfr : fr (elm r) e + 1 ≤ fr r e := by
      obtain rfl | rfl | rfl | rfl : r = 0 ∨ r = 1 ∨ r = 2 ∨ r = 3 := by omega
      all_goals simp [fr, elm]
    have hfr5 : 5 ≤ fr (elm r) e := by unfold fr; omega
    obtain ⟨f1, rfl⟩ : ∃ f1, f = f1 + 1 := ⟨f - 1, by omega⟩
    obtain ⟨D, rfl⟩ : ∃ D', D = D' + 3 := ⟨D - 3, by omega⟩
    rw [pz, if_pos hr] at hP
    refine zC.of (by decide) (Nat.le_of_ble_eq_true rfl) ?_
    refine wX3_readRow_0 l t S _ _ _ ?_
    refine row6 S hlt V (i := 0) (f2 := f1) (flag := 0) (res := pz tx ln f1 (elm r) e p) hr (by omega) (by omega) hp (by simpa using hc) (if_pos rfl) ?_ ?_ ?_ ?_ ?_ ?_ (fun _ => hP) (fun h => absurd rfl h)
    · rintro rfl Q' h'
      exact (ih f1 (by omega)).1 1 e p _ cs Q' (by omega) he hp hc (by have : elm 0 = 1 := rfl; rw [this] at hcm; omega) (by have : elm 0 = 1 := rfl; rw [this] at hfr; omega) h'
    · rintro rfl Q' h'
      exact (ih f1 (by omega)).2.2.1 e p _ cs Q' he hp hc (by have : elm 1 = 8 := rfl; rw [this] at hcm; omega) (by have : elm 1 = 8 := rfl; rw [this] at hfr; omega) h'
    · rintro rfl Q' h'
      exact (ih f1 (by omega)).1 3 e p _ cs Q' (by omega) he hp hc (by have : elm 2 = 3 := rfl; rw [this] at hcm; omega) (by have : elm 2 = 3 := rfl; rw [this] at hfr; omega) h'
    · rintro rfl Q' h'
      exact (ih f1 (by omega)).2.2.2.2.1 e p _ cs Q' he hp hc (by have : elm 3 = 9 := rfl; rw [this] at hcm; omega) (by have : elm 3 = 9 := rfl; rw [this] at hfr; omega) h'
    · intro c hc2
      have hb := pz_ok (tx := tx) (ln := ln) f1 (elm r) e p (pz tx ln f1 (elm r) e p).1 c hp (by rw [← hc2])
      have h7 := hb.2.2 (by unfold elm; repeat' split
                            all_goals omega)
      exact ⟨hb.1, hb.2.1, h7, by omega⟩
    · intro f' p' i' cs' s' e1 q1 q2 q3 q4 q5 q6
      exact (ih f' (by omega)).2.2.2.2.2 r e p' i' D cs' s' 0 Q hr he q1 q2 q3 q4 q5 hD q6
  have hB : ∀ (r e p D : Nat) (cs : List Int32) (Q : Option Value → zH → Prop), r ≤ 1 → e ≤ 6 → p ≤ ln → cs.length ≤ p → 8 * (ln - p) + cm (11 + r) ≤ f → fr (11 + r) e ≤ D → PO Q I J R K n t l cs (pz tx ln f (11 + r) e p) → zC G D mX3_readRow 0 0 [.ref l, .int (nI r), .int (nI e), .int 1] (zU (LC I l cs) t 2 (nI p), J, R, K, n) Q := by
    intro r e p D cs Q hr he hp hc hf hD hP
    have h5 : 5 ≤ fr (11 + r) e := by unfold fr; omega
    have hc1 : 1 ≤ cm (11 + r) := by
      unfold cm
      repeat' split
      all_goals omega
    obtain ⟨f1, rfl⟩ : ∃ f1, f = f1 + 1 := ⟨f - 1, by omega⟩
    obtain ⟨D, rfl⟩ : ∃ D', D = D' + 3 := ⟨D - 3, by omega⟩
    obtain rfl | rfl : r = 0 ∨ r = 1 := by omega
    · rw [pz, if_neg (by omega), if_neg (by omega), if_neg (by omega), if_neg (by omega), if_neg (by omega), if_pos rfl] at hP
      have c1 : cm (11 + 0) = 3 := rfl
      have c2 : fr (11 + 0) e = 5 + 3 * (6 - e) + 5 := rfl
      rw [c1] at hf; rw [c2] at hD
      refine zC.of (by decide) (Nat.le_of_ble_eq_true rfl) ?_
      refine wX3_readRow_0 l t S _ _ _ ?_
      refine row6 S hlt V (r := 0) (i := 0) (f2 := f1) (flag := 1) (res := pz tx ln f1 12 e p) (by omega) (by omega) (by omega) hp (by simpa using hc) (by decide) ?_ (fun h => absurd h (by decide)) (fun h => absurd h (by decide)) (fun h => absurd h (by decide)) ?_ ?_ (fun _ => hP) (fun h => absurd rfl h)
      · rintro - Q' h'
        exact (ih f1 (by omega)).2.1 1 e p _ cs Q' (by omega) he hp hc (by have : cm (11 + 1) = 2 := rfl; omega) (by have : fr (11 + 1) e = 5 + 3 * (6 - e) + 4 := rfl; omega) h'
      · intro c hc2
        have hb := pz_ok (tx := tx) (ln := ln) f1 12 e p (pz tx ln f1 12 e p).1 c hp (by rw [← hc2])
        have h7 := hb.2.2 (by decide)
        exact ⟨hb.1, hb.2.1, h7, by omega⟩
      · intro f' p' i' cs' s' e1 q1 q2 q3 q4 q5 q6
        exact (ih f' (by omega)).2.2.2.2.2 0 e p' i' D cs' s' 1 Q (by omega) he q1 q2 q3 q4 q5 (by have : fr 0 e = 5 + 3 * (6 - e) + 5 := rfl; omega) q6
    · rw [pz, if_neg (by omega), if_neg (by omega), if_neg (by omega), if_neg (by omega), if_neg (by omega), if_neg (by omega)] at hP
      have c1 : cm (11 + 1) = 2 := rfl
      have c2 : fr (11 + 1) e = 5 + 3 * (6 - e) + 4 := rfl
      rw [c1] at hf; rw [c2] at hD
      refine zC.of (by decide) (Nat.le_of_ble_eq_true rfl) ?_
      refine wX3_readRow_0 l t S _ _ _ ?_
      refine row6 S hlt V (r := 1) (i := 0) (f2 := f1) (flag := 1) (res := pz tx ln f1 10 e p) (by omega) (by omega) (by omega) hp (by simpa using hc) (by decide) (fun h => absurd h (by decide)) ?_ (fun h => absurd h (by decide)) (fun h => absurd h (by decide)) ?_ ?_ (fun _ => hP) (fun h => absurd rfl h)
      · rintro - Q' h'
        exact (ih f1 (by omega)).2.2.2.1 e p _ cs Q' he hp hc (by have : cm 10 = 1 := rfl; omega) (by have : fr 10 e = 5 + 3 * (6 - e) + 3 := rfl; omega) h'
      · intro c hc2
        have hb := pz_ok (tx := tx) (ln := ln) f1 10 e p (pz tx ln f1 10 e p).1 c hp (by rw [← hc2])
        have h7 := hb.2.2 (by decide)
        exact ⟨hb.1, hb.2.1, h7, by omega⟩
      · intro f' p' i' cs' s' e1 q1 q2 q3 q4 q5 q6
        exact (ih f' (by omega)).2.2.2.2.2 1 e p' i' D cs' s' 1 Q (by omega) he q1 q2 q3 q4 q5 (by have : fr 1 e = 5 + 3 * (6 - e) + 4 := rfl; omega) q6
  have hC : ∀ (e p D : Nat) (cs : List Int32) (Q : Option Value → zH → Prop), e ≤ 6 → p ≤ ln → cs.length ≤ p → 8 * (ln - p) + cm 8 ≤ f → fr 8 e ≤ D → PO Q I J R K n t l cs (pz tx ln f 8 e p) → zC G D mX3_readUnit 0 0 [.ref l, .int (nI e), .int 0] (zU (LC I l cs) t 2 (nI p), J, R, K, n) Q := by
    intro e p D cs Q he hp hc hf hD hP
    have c1 : cm 8 = 4 := rfl
    have c2 : fr 8 e = 5 + 3 * (6 - e) + 3 := rfl
    have c3 : cm 2 = 3 := rfl
    have c4 : fr 2 e = 5 + 3 * (6 - e) + 2 := rfl
    rw [c1] at hf; rw [c2] at hD
    obtain ⟨f1, rfl⟩ : ∃ f1, f = f1 + 1 := ⟨f - 1, by omega⟩
    obtain ⟨D, rfl⟩ : ∃ D', D = D' + 3 := ⟨D - 3, by omega⟩
    have g1 := sk_ge (tx := tx) (ln := ln) (p := p)
    have g2 := sk_le (tx := tx) hp
    rw [pz, if_neg (by omega), if_neg (by omega), if_pos rfl] at hP
    refine zC.of (by decide) (Nat.le_of_ble_eq_true rfl) ?_
    refine wX3_readUnit_0 l t S _ _ ?_
    refine c_next (Lrd_4 S) (V.lc hlt cs) hp ?_
    refine ⟨_, _, rfl, rfl, ?_⟩
    refine ⟨fun _ => ?_, fun h => absurd rfl h⟩
    refine ⟨fun h33 => ?_, fun h33 => ?_⟩
    · rw [if_pos h33] at hP
      have hk := lk_lt (p := p) (tx := tx) (ln := ln) (by rw [h33]; decide)
      rw [show (6 : Int32) = nI 6 from rfl, tk_lt (by omega) (by omega)]
      refine ⟨fun h6 => ?_, fun h6 => ?_⟩
      · rw [if_pos h6] at hP
        rintro _ rfl
        rw [zU_two, zU_self, nI_1, nI_1]
        refine ⟨fun h => absurd (h33.symm.trans h) (by decide), fun _ => ?_⟩
        refine (ih f1 (by omega)).2.2.1 (e + 1) (sk tx ln p + 1) _ cs _ (by omega) (by omega) (by omega) (by omega) (by have : fr 8 (e + 1) = 5 + 3 * (6 - (e + 1)) + 3 := rfl; omega) ⟨fun c hc2 => ⟨_, _, rfl, rfl, fun h => absurd h (by decide), fun _ => ?_⟩, fun hn cs' => ⟨_, _, rfl, rfl, fun _ => hP.sq1 hn cs', fun h => absurd rfl h⟩⟩
        have hb := pz_ok (tx := tx) (ln := ln) f1 8 (e + 1) (sk tx ln p + 1) (pz tx ln f1 8 (e + 1) (sk tx ln p + 1)).1 c (by omega) (by rw [← hc2])
        refine c_emit S hlt (by simp; omega) ?_
        refine ⟨_, _, rfl, rfl, ?_⟩
        rw [if_neg (by decide)]
        exact (hP.sq2 hc2).1 _ rfl
      · rw [if_neg h6] at hP
        exact hP.2 rfl cs
    · rw [if_neg h33] at hP
      refine ⟨fun h40 => ?_, fun h40 => ?_⟩
      · rw [if_pos h40] at hP
        have hk := lk_lt (p := p) (tx := tx) (ln := ln) (by rw [h40]; decide)
        rw [show (6 : Int32) = nI 6 from rfl, tk_lt (by omega) (by omega)]
        refine ⟨fun h6 => ?_, fun h6 => ?_⟩
        · rw [if_pos h6] at hP
          rintro _ rfl
          rw [zU_two, zU_self, nI_1, nI_1]
          refine ⟨fun _ => ?_, fun h => absurd h40 h⟩
          refine (ih f1 (by omega)).1 0 (e + 1) (sk tx ln p + 1) _ cs _ (by omega) (by omega) (by omega) (by omega) (by have : cm 0 = 6 := rfl; omega) (by have : fr 0 (e + 1) = 5 + 3 * (6 - (e + 1)) + 5 := rfl; omega) ⟨fun c hc2 => ⟨_, _, rfl, rfl, fun h => absurd h (by decide), fun _ => ?_⟩, fun hn cs' => ⟨_, _, rfl, rfl, fun _ => hP.sq1 hn cs', fun h => absurd rfl h⟩⟩
          have hb := pz_ok (tx := tx) (ln := ln) f1 0 (e + 1) (sk tx ln p + 1) (pz tx ln f1 0 (e + 1) (sk tx ln p + 1)).1 c (by omega) (by rw [← hc2])
          have hP2 := hP.sq2 hc2
          unfold acc at hP2
          refine c_accept (Lrd_4 S) (V.lc hlt _) hb.2.1 (fun h => ?_) (fun h => ?_)
          · rw [if_pos h] at hP2
            refine ⟨_, _, rfl, rfl, ?_⟩
            rw [if_neg (by decide)]
            have := hP2.1 [] rfl
            rw [List.append_nil] at this
            exact this
          · rw [if_neg h] at hP2
            refine ⟨_, _, rfl, rfl, ?_⟩
            rw [if_pos rfl]
            exact hP2.2 rfl _
        · rw [if_neg h6] at hP
          exact hP.2 rfl cs
      · rw [if_neg h40] at hP
        refine ⟨fun _ => ?_, fun h => absurd rfl h⟩
        refine (ih f1 (by omega)).1 2 e (sk tx ln p) _ cs _ (by omega) he g2 (by omega) (by omega) (by omega) ⟨fun c hc2 => ⟨_, _, rfl, rfl, fun h => absurd h (by decide), fun _ => ?_⟩, fun hn cs' => ⟨_, _, rfl, rfl, fun _ => hP.sq1 hn cs', fun h => absurd rfl h⟩⟩
        have hb := pz_ok (tx := tx) (ln := ln) f1 2 e (sk tx ln p) (pz tx ln f1 2 e (sk tx ln p)).1 c g2 (by rw [← hc2])
        have h7 := hb.2.2 (by decide)
        refine unit_tail S hlt V hb.2.1 (by simp; omega) (by omega) (fun p' Q' r1 r2 r3 r4 => ?_) (hP.sq2 hc2)
        exact (ih (f1 - 1) (by omega)).1 2 e p' _ _ Q' (by omega) he r1 r2 (by omega) (by omega) r4
  have hDD : ∀ (e p D : Nat) (cs : List Int32) (Q : Option Value → zH → Prop), e ≤ 6 → p ≤ ln → cs.length ≤ p → 8 * (ln - p) + cm 10 ≤ f → fr 10 e ≤ D → PO Q I J R K n t l cs (pz tx ln f 10 e p) → zC G D mX3_readUnit 0 0 [.ref l, .int (nI e), .int 1] (zU (LC I l cs) t 2 (nI p), J, R, K, n) Q := by
    intro e p D cs Q he hp hc hf hD hP
    have c1 : cm 10 = 1 := rfl
    have c2 : fr 10 e = 5 + 3 * (6 - e) + 3 := rfl
    have c3 : cm 2 = 3 := rfl
    have c4 : fr 2 e = 5 + 3 * (6 - e) + 2 := rfl
    rw [c1] at hf; rw [c2] at hD
    obtain ⟨D, rfl⟩ : ∃ D', D = D' + 3 := ⟨D - 3, by omega⟩
    have g1 := sk_ge (tx := tx) (ln := ln) (p := p)
    have g2 := sk_le (tx := tx) hp
    have hP' : PO Q I J R K n t l cs (pz tx ln f 10 e (sk tx ln p)) := by
      obtain ⟨f1, rfl⟩ : ∃ f1, f = f1 + 1 := ⟨f - 1, by omega⟩
      rw [pz, if_neg (by omega), if_neg (by omega), if_neg (by omega), if_neg (by omega), if_pos rfl] at hP ⊢
      rw [sk_sk, lk_sk]
      exact hP
    refine zC.of (by decide) (Nat.le_of_ble_eq_true rfl) ?_
    refine wX3_readUnit_0 l t S _ _ ?_
    refine c_next (Lrd_4 S) (V.lc hlt cs) hp ?_
    refine ⟨_, _, rfl, rfl, ?_⟩
    refine ⟨fun h => absurd h (by decide), fun _ => ⟨fun h => absurd h (by decide), fun _ => ?_⟩⟩
    refine unit_tail S hlt V g2 (by omega) (by omega) (fun p' Q' r1 r2 r3 r4 => ?_) hP'
    exact (ih (f - 1) (by omega)).1 2 e p' _ _ Q' (by omega) he r1 r2 (by omega) (by omega) r4
  have hE : ∀ (e p D : Nat) (cs : List Int32) (Q : Option Value → zH → Prop), e ≤ 6 → p ≤ ln → cs.length ≤ p → 8 * (ln - p) + cm 9 ≤ f → fr 9 e ≤ D → PO Q I J R K n t l cs (pz tx ln f 9 e p) → zC G D mX3_readAtom 0 0 [.ref l, .int (nI e)] (zU (LC I l cs) t 2 (nI p), J, R, K, n) Q := by
    intro e p D cs Q he hp hc hf hD hP
    have c1 : cm 9 = 1 := rfl
    have c2 : fr 9 e = 5 + 3 * (6 - e) + 0 := rfl
    rw [c1] at hf; rw [c2] at hD
    obtain ⟨f1, rfl⟩ : ∃ f1, f = f1 + 1 := ⟨f - 1, by omega⟩
    obtain ⟨D, rfl⟩ : ∃ D', D = D' + 5 := ⟨D - 5, by omega⟩
    have g1 := sk_ge (tx := tx) (ln := ln) (p := p)
    have g2 := sk_le (tx := tx) hp
    rw [pz, if_neg (by omega), if_neg (by omega), if_neg (by omega), if_pos rfl] at hP
    refine zC.of (by decide) (Nat.le_of_ble_eq_true rfl) ?_
    refine wX3_readAtom_0 l t S _ ?_
    refine c_next (Lrd_4 S) (V.lc hlt cs) hp ?_
    refine ⟨_, _, rfl, rfl, ?_⟩
    have hnum : ∀ Q' : Option Value → zH → Prop, (∀ v, (nmA tx ln 4 (sk tx ln p)).2 = some v → Q' (some (.int (nI v))) (zU (LC I l cs) t 2 (nI (nmA tx ln 4 (sk tx ln p)).1), J, R, K, n)) → ((nmA tx ln 4 (sk tx ln p)).2 = none → Q' (some (.int (-1))) (zU (LC I l cs) t 2 (nI (nmA tx ln 4 (sk tx ln p)).1), J, R, K, n)) → zC G (D + 4) mX9_number 0 0 [.ref t, .int 4] (zU (LC I l cs) t 2 (nI (sk tx ln p)), J, R, K, n) Q' := fun Q' q1 q2 => c_number (D := 4) (Lrd_4 S) (V.lc hlt cs) g2 (by omega) q1 q2
    refine ⟨fun h91 => ?_, fun h91 => ?_⟩
    · rw [if_pos h91] at hP
      have hk := lk_lt (p := p) (tx := tx) (ln := ln) (by rw [h91]; decide)
      rw [show (6 : Int32) = nI 6 from rfl, tk_lt (by omega) (by omega)]
      refine ⟨fun h6 => ?_, fun h6 => ?_⟩
      · rw [if_pos h6] at hP
        rintro _ rfl
        rw [zU_two, zU_self, nI_1, nI_1]
        refine (ih f1 (by omega)).1 2 (e + 1) (sk tx ln p + 1) _ cs _ (by omega) (by omega) (by omega) (by omega) (by have : cm 2 = 3 := rfl; omega) (by have : fr 2 (e + 1) = 5 + 3 * (6 - (e + 1)) + 2 := rfl; omega) ⟨fun c hc2 => ⟨_, _, rfl, rfl, fun h => absurd h (by decide), fun _ => ?_⟩, fun hn cs' => ⟨_, _, rfl, rfl, fun _ => hP.sq1 hn cs', fun h => absurd rfl h⟩⟩
        have hb := pz_ok (tx := tx) (ln := ln) f1 2 (e + 1) (sk tx ln p + 1) (pz tx ln f1 2 (e + 1) (sk tx ln p + 1)).1 c (by omega) (by rw [← hc2])
        have hP2 := hP.sq2 hc2
        unfold acc at hP2
        refine c_accept (Lrd_4 S) (V.lc hlt _) hb.2.1 (fun h => ?_) (fun h => ?_)
        · rw [if_pos h] at hP2
          refine ⟨_, _, rfl, rfl, ?_⟩
          rw [if_neg (by decide)]
          have := hP2.1 [] rfl
          rw [List.append_nil] at this
          exact this
        · rw [if_neg h] at hP2
          refine ⟨_, _, rfl, rfl, ?_⟩
          rw [if_pos rfl]
          exact hP2.2 rfl _
      · rw [if_neg h6] at hP
        exact hP.2 rfl cs
    · rw [if_neg h91] at hP
      have hN : idxA 3 (lk tx ln p) = -1 → ∀ Q' : Option Value → zH → Prop, Q' = Q → zC G (D + 4) mX9_number 0 0 [.ref t, .int 4] (zU (LC I l cs) t 2 (nI (sk tx ln p)), J, R, K, n) (fun r h => ∃ (x7 : Int32) (I8 : Nat → Nat → Int32), r = some (.int x7) ∧ h = (I8, J, R, K, n) ∧ ((x7 = (-1) → Q (some (.int (0))) (I8, J, R, K, n)) ∧ (¬ (x7 = (-1)) → zC G (D + 4) mX3_emit 0 0 [.ref (l), .int (x7)] (I8, J, R, K, n) (fun r h => ∃ (x10 : Int32) (I11 : Nat → Nat → Int32), r = some (.int x10) ∧ h = (I11, J, R, K, n) ∧ Q (some (.int ((if x10 = 0 then 0 else 1)))) (I11, J, R, K, n))))) := by
        rintro hi _ rfl
        rw [if_pos hi] at hP
        refine hnum _ (fun v hv => ?_) (fun hv => ?_)
        · have hb := nmA_ok (tx := tx) (ln := ln) (D := 4) (p := sk tx ln p) (q := (nmA tx ln 4 (sk tx ln p)).1) (v := v) g2 (by rw [← hv]) (by decide)
          refine ⟨_, _, rfl, rfl, fun h => absurd ((tk_m1 (by omega)).mp h) id, fun _ => ?_⟩
          refine c_emit S hlt (by omega) ?_
          refine ⟨_, _, rfl, rfl, ?_⟩
          rw [if_neg (by decide)]
          exact hP.1 [nI v] (by show Option.map _ _ = _; rw [hv]; rfl)
        · refine ⟨_, _, rfl, rfl, fun _ => ?_, fun h => absurd rfl h⟩
          exact hP.2 (by show Option.map _ _ = _; rw [hv]; rfl) cs
      refine ⟨fun hm => ?_, fun hm => ?_⟩
      · have hi : idxA 3 (lk tx ln p) = -1 := by rw [hm]; decide
        exact ⟨fun _ => hN hi Q rfl, fun h => absurd rfl h⟩
      · have hb0 : ∀ k, k < ln → 1 ≤ tx k ∧ tx k < 256 := fun k hk => (V.2.2 k hk).2
        obtain ⟨k1, k2⟩ := lk_b hb0 hm
        have hb1 := hb0 _ k1
        rw [k2]
        refine c_indexOf (i := 3) (by decide) hb1.2 ?_
        refine ⟨_, rfl, rfl, ?_⟩
        rw [← k2]
        refine ⟨fun hi => hN hi Q rfl, fun hi => ?_⟩
        rw [if_neg hi] at hP
        rintro _ rfl
        rw [zU_two, zU_self, nI_1]
        refine c_emit S hlt (by omega) ?_
        refine ⟨_, _, rfl, rfl, ?_⟩
        exact ⟨Or.inr rfl, hP.1 _ rfl⟩
  refine ⟨hA, hB, hC, hDD, hE, ?_⟩
  intro r e p i D cs s b3 Q hr he hp hc hi hip hf hD hP
  have hfr : fr (elm r) e + 1 ≤ fr r e := by
    obtain rfl | rfl | rfl | rfl : r = 0 ∨ r = 1 ∨ r = 2 ∨ r = 3 := by omega
    all_goals simp [fr, elm]
  have hfl : (if b3 = 0 then (0 : Int32) else (if nI i = 0 then 1 else 0)) = 0 := by
    rw [if_neg (c := nI i = 0) (by rw [show (0 : Int32) = nI 0 from rfl, tk_eq (by omega) (by omega)]; omega), ite_self]
  refine row6 S hlt V (i := i) (f2 := f) (flag := 0) (res := pz tx ln f (elm r) e p) hr (by omega) (by omega) hp (by rw [if_neg (by omega)]; exact hc) hfl ?_ ?_ ?_ ?_ ?_ ?_ (fun h => absurd h (by omega)) (fun _ => hP)
  · rintro rfl Q' h'
    exact hA 1 e p _ cs Q' (by omega) he hp (by omega) hf (by have : elm 0 = 1 := rfl; rw [this] at hfr; omega) h'
  · rintro rfl Q' h'
    exact hC e p _ cs Q' he hp (by omega) hf (by have : elm 1 = 8 := rfl; rw [this] at hfr; omega) h'
  · rintro rfl Q' h'
    exact hA 3 e p _ cs Q' (by omega) he hp (by omega) hf (by have : elm 2 = 3 := rfl; rw [this] at hfr; omega) h'
  · rintro rfl Q' h'
    exact hE e p _ cs Q' he hp (by omega) hf (by have : elm 3 = 9 := rfl; rw [this] at hfr; omega) h'
  · intro c hc2
    have hb := pz_ok (tx := tx) (ln := ln) f (elm r) e p (pz tx ln f (elm r) e p).1 c hp (by rw [← hc2])
    have h7 := hb.2.2 (by unfold elm; repeat' split
                          all_goals omega)
    have hc1 : 1 ≤ cm (elm r) := by unfold cm; repeat' split
                                    all_goals omega
    exact ⟨hb.1, hb.2.1, h7, by omega⟩
  · intro f' p' i' cs' s' e1 q1 q2 q3 q4 q5 q6
    exact (ih f' (by omega)).2.2.2.2.2 r e p' i' D cs' s' b3 Q hr he q1 q2 q3 q4 q5 hD q6
end
