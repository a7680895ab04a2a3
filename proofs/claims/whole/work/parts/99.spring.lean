/-! SPRINGS: what a text of steps says -/
def kdA (c : Int32) : Int32 := if c = 102 then 0 else if c = 112 then 1 else if c = 105 then 2 else if c = 110 then 3 else -1
/-- a step: where reading stands behind it, and what it says -/
def stP (tx : Nat → Nat) (ln p : Nat) : Nat × Option (Int32 × Int32 × Int32) :=
  if kdA (lk tx ln p) = -1 then (sk tx ln p, none)
  else if kdA (lk tx ln p) = 3 then (sk tx ln p + 1, some (3, -1, -1))
  else if dgB tx ln (sk tx ln (sk tx ln p + 1)) = true then
    (if kdA (lk tx ln p) = 1 then
      (if dgB tx ln (sk tx ln (sk tx ln (sk tx ln p + 1) + 1)) = true then (sk tx ln (sk tx ln (sk tx ln p + 1) + 1) + 1, some (kdA (lk tx ln p), nI (tx (sk tx ln (sk tx ln p + 1)) - 48), nI (tx (sk tx ln (sk tx ln (sk tx ln p + 1) + 1)) - 48))) else (sk tx ln (sk tx ln (sk tx ln p + 1) + 1), none))
    else (sk tx ln (sk tx ln p + 1) + 1, some (kdA (lk tx ln p), nI (tx (sk tx ln (sk tx ln p + 1)) - 48), -1)))
  else (sk tx ln (sk tx ln p + 1), none)
def ptP (P : Nat → Int32) (i : Nat) (e : Int32 × Int32 × Int32) : Nat → Int32 := fun k => if k = 3 * i then e.1 else if k = 3 * i + 1 then e.2.1 else if k = 3 * i + 2 then e.2.2 else P k
def spP (tx : Nat → Nat) (ln : Nat) : Nat → Nat → Nat → (Nat → Int32) → Nat × Option (Nat × (Nat → Int32))
  | 0, _, p, _ => (p, none)
  | j + 1, i, p, P => match (stP tx ln p).2 with
    | none => ((stP tx ln p).1, none)
    | some e => if lk tx ln (stP tx ln p).1 = -1 then (sk tx ln (stP tx ln p).1, some (i + 1, ptP P i e)) else if j = 0 then (sk tx ln (stP tx ln p).1, none) else if lk tx ln (stP tx ln p).1 = 59 then spP tx ln j (i + 1) (sk tx ln (stP tx ln p).1 + 1) (ptP P i e) else (sk tx ln (stP tx ln p).1, none)
theorem kdA_in (c : Int32) : kdA c = -1 ∨ (c ≠ -1 ∧ (kdA c = 0 ∨ kdA c = 1 ∨ kdA c = 2 ∨ kdA c = 3)) := by
  unfold kdA
  repeat' split
  all_goals (first | exact Or.inl rfl | (rename_i h; subst h; exact Or.inr ⟨by decide, by decide⟩))
theorem dgB_lt {tx : Nat → Nat} {ln p : Nat} (h : dgB tx ln p = true) : p < ln ∧ 48 ≤ tx p ∧ tx p ≤ 57 := dgB_iff.mp h
theorem stP_le {tx : Nat → Nat} {ln p : Nat} (hp : p ≤ ln) : (stP tx ln p).1 ≤ ln ∧ ∀ e, (stP tx ln p).2 = some e → p + 1 ≤ (stP tx ln p).1 ∧ (e.1 = 0 ∨ e.1 = 1 ∨ e.1 = 2 ∨ e.1 = 3) := by
  have a1 := sk_le (tx := tx) hp
  have g1 := sk_ge (tx := tx) (ln := ln) (p := p)
  unfold stP
  rcases kdA_in (lk tx ln p) with h | ⟨h0, h⟩
  · rw [if_pos h]
    exact ⟨a1, fun e h => by injection h⟩
  have l1 := lk_lt h0
  have a2 := sk_le (tx := tx) (ln := ln) (p := sk tx ln p + 1) (by omega)
  have g2 := sk_ge (tx := tx) (ln := ln) (p := sk tx ln p + 1)
  have hm : ¬ kdA (lk tx ln p) = -1 := by rcases h with h | h | h | h <;> rw [h] <;> decide
  rw [if_neg hm]
  split
  · refine ⟨by omega, fun e he => ?_⟩
    injection he with he
    subst he
    exact ⟨by show p + 1 ≤ sk tx ln p + 1; omega, Or.inr (Or.inr (Or.inr rfl))⟩
  split
  · rename_i hd
    have d1 := dgB_lt hd
    have a3 := sk_le (tx := tx) (ln := ln) (p := sk tx ln (sk tx ln p + 1) + 1) (by omega)
    have g3 := sk_ge (tx := tx) (ln := ln) (p := sk tx ln (sk tx ln p + 1) + 1)
    split
    · split
      · rename_i hd2
        have d2 := dgB_lt hd2
        refine ⟨by show _ + 1 ≤ ln; omega, fun e he => ?_⟩
        injection he with he
        subst he
        exact ⟨by show p + 1 ≤ _ + 1; omega, h⟩
      · exact ⟨a3, fun e h => by injection h⟩
    · refine ⟨by show _ + 1 ≤ ln; omega, fun e he => ?_⟩
      injection he with he
      subst he
      exact ⟨by show p + 1 ≤ _ + 1; omega, h⟩
  · exact ⟨a2, fun e h => by injection h⟩
theorem spP_le {tx : Nat → Nat} {ln : Nat} : ∀ {j i p : Nat} {P : Nat → Int32}, p ≤ ln → (spP tx ln j i p P).1 ≤ ln
  | 0, _, p, _, hp => hp
  | j + 1, i, p, P, hp => by
    obtain ⟨a, b⟩ := stP_le (tx := tx) hp
    have g := sk_le (tx := tx) a
    rw [spP]
    split
    · exact a
    · rename_i e he
      split
      · exact g
      split
      · exact g
      split
      · rename_i h59
        have := lk_lt (p := (stP tx ln p).1) (tx := tx) (ln := ln) (by rw [h59]; decide)
        exact spP_le (by omega)
      · exact g
section
variable {G : zG} {d : Nat} {I : Nat → Nat → Int32} {J : Nat → Nat → Int64} {R : Nat → Nat → Option Nat} {K : Nat → Nat × Nat} {n : Nat} {t q ln i p : Nat} {tx : Nat → Nat} {Q : Option Value → zH → Prop}
theorem c_kindOf {c : Int32} (hQ : Q (some (.int (kdA c))) (I, J, R, K, n)) : zC G (d + 1) mX7_kindOf 0 0 [.int c] (I, J, R, K, n) Q := by
  unfold kdA at hQ
  refine zC.of (by decide) (Nat.le_of_ble_eq_true rfl) ?_
  refine wX7_kindOf_0 _ ?_
  refine ⟨fun h => ?_, fun h => ?_, fun h => ?_, fun h => ?_, fun h1 h2 h3 h4 => ?_⟩
  · subst h; exact hQ
  · subst h; exact hQ
  · subst h; exact hQ
  · subst h; exact hQ
  · rw [if_neg h1, if_neg h4, if_neg h2, if_neg h3] at hQ
    exact hQ
theorem c_nextE (S : hTape G R K n t) (V : TP I t ln tx) (hp : p ≤ ln) (e : I t 2 = nI p) (hQ : Q (some (.int (lk tx ln p))) (zU I t 2 (nI (sk tx ln p)), J, R, K, n)) : zC G (d + 1) mX9_next 0 0 [.ref t] (I, J, R, K, n) Q := by
  have := c_next (d := d) (J := J) S V hp hQ
  rw [zU_id' e] at this
  exact this
theorem c_digitE (S : hTape G R K n t) (V : TP I t ln tx) (hp : p ≤ ln) (e : I t 2 = nI p) (h1 : dgB tx ln (sk tx ln p) = true → Q (some (.int (nI (tx (sk tx ln p) - 48)))) (zU I t 2 (nI (sk tx ln p + 1)), J, R, K, n)) (h0 : ¬ dgB tx ln (sk tx ln p) = true → Q (some (.int (-1))) (zU I t 2 (nI (sk tx ln p)), J, R, K, n)) : zC G (d + 2) mX9_digit 0 0 [.ref t] (I, J, R, K, n) Q := by
  have := c_digit (d := d) (J := J) S V hp h1 h0
  rw [zU_id' e] at this
  exact this
theorem c_acceptE (S : hTape G R K n t) (V : TP I t ln tx) (hp : p ≤ ln) (e : I t 2 = nI p) {s : Int32} (h1 : lk tx ln p = s → Q (some (.int 1)) (zU I t 2 (nI (sk tx ln p + 1)), J, R, K, n)) (h0 : lk tx ln p ≠ s → Q (some (.int 0)) (zU I t 2 (nI (sk tx ln p)), J, R, K, n)) : zC G (d + 2) mX9_accept 0 0 [.ref t, .int s] (I, J, R, K, n) Q := by
  have := c_accept (d := d) (J := J) S V hp h1 h0
  rw [zU_id' e] at this
  exact this
/-- nothing changed but where reading stands and the place i of a spring -/
def sFr (t q i : Nat) (I I' : Nat → Nat → Int32) : Prop := ∀ b k, ¬ (b = t ∧ k = 2) → ¬ (q + 1 ≤ b ∧ b ≤ q + 3 ∧ k = i) → I' b k = I b k
theorem sFr.tp {I' : Nat → Nat → Int32} (F : sFr t q i I I') (V : TP I t ln tx) (hq : t + 1 < q) : TP I' t ln tx := V.same (F t 1 (by omega) (by omega)) (funext fun k => F (t + 1) k (by omega) (by omega))
theorem c_sstep (S : hSpr G R K n q) (S1 : hTape G R K n t) (hq : t + 1 < q) (V : TP I t ln tx) (hp : p ≤ ln) (hi : i < 16) (e : I t 2 = nI p) (h1 : ∀ I' z, (stP tx ln p).2 = some z → sFr t q i I I' → I' t 2 = nI (stP tx ln p).1 → I' (q + 1) i = z.1 → I' (q + 2) i = z.2.1 → I' (q + 3) i = z.2.2 → Q (some (.int 1)) (I', J, R, K, n)) (h0 : ∀ I', (stP tx ln p).2 = none → sFr t q i I I' → I' t 2 = nI (stP tx ln p).1 → Q (some (.int 0)) (I', J, R, K, n)) : zC G (d + 3) mX7_readStep 0 0 [.ref q, .ref t, .int (nI i)] (I, J, R, K, n) Q := by
  have ini : vp_in (nI i) 16 := (tk_in (by omega) (by omega)).mpr hi
  have a1 := sk_le (tx := tx) hp
  refine zC.of (by decide) (Nat.le_of_ble_eq_true rfl) ?_
  refine wX7_readStep_0 q t S S1 _ ?_
  refine c_nextE S1 V hp e ?_
  refine ⟨_, _, rfl, rfl, ?_⟩
  refine c_kindOf ?_
  refine ⟨_, _, rfl, rfl, ?_⟩
  unfold stP at h1 h0
  rcases kdA_in (lk tx ln p) with hk | ⟨hk0, hk⟩
  · rw [if_pos hk] at h1 h0
    refine ⟨fun _ => h0 _ rfl (fun b k g1 g2 => by rw [zU_ne g1]) (zU_self ..), fun h => absurd hk h⟩
  have l1 := lk_lt hk0
  have hm : ¬ kdA (lk tx ln p) = -1 := by rcases hk with h | h | h | h <;> rw [h] <;> decide
  rw [if_neg hm] at h1 h0
  refine ⟨fun h => absurd h hm, fun _ => ?_⟩
  rw [tk_c (by omega), zU_self, nI_1]
  intro I2 q2
  refine ⟨ini, fun I3 q3 => ⟨ini, fun I4 q4 => ⟨ini, fun I5 q5 => ?_⟩⟩⟩
  have F5 : sFr t q i I I5 := fun b k g1 g2 => by
    rw [q5, zU_ne (by omega), q4, zU_ne (by omega), q3, zU_ne (by omega), q2, zU_ne (by omega), zU_ne (by omega)]
  have e5 : I5 t 2 = nI (sk tx ln p + 1) := by rw [q5, zU_ne (by omega), q4, zU_ne (by omega), q3, zU_ne (by omega), q2, zU_self]
  have k5 : I5 (q + 1) i = kdA (lk tx ln p) := by rw [q5, zU_ne (by omega), q4, zU_ne (by omega), q3, zU_self]
  have f5 : I5 (q + 2) i = -1 := by rw [q5, zU_ne (by omega), q4, zU_self]
  have s5 : I5 (q + 3) i = -1 := by rw [q5, zU_self]
  have V5 := F5.tp V hq
  refine ⟨fun h3 => ?_, fun h3 => ?_⟩
  · rw [if_pos h3] at h1
    refine ⟨fun h => ?_, fun _ => h1 I5 _ rfl F5 e5 (by rw [k5, h3]) f5 s5⟩
    rw [h3] at h
    exact absurd h (by decide)
  rw [if_neg h3] at h1 h0
  refine c_digitE S1 V5 (by omega) e5 (fun hd => ?_) (fun hd => ?_)
  · have d1 := dgB_lt hd
    rw [if_pos hd] at h1 h0
    refine ⟨_, _, rfl, rfl, ini, fun I6 q6 => ⟨ini, ?_⟩⟩
    have F6 : sFr t q i I I6 := fun b k g1 g2 => by rw [q6, zU_ne (by omega), zU_ne (by omega)]; exact F5 b k g1 g2
    have e6 : I6 t 2 = nI (sk tx ln (sk tx ln p + 1) + 1) := by rw [q6, zU_ne (by omega), zU_self]
    have k6 : I6 (q + 1) i = kdA (lk tx ln p) := by rw [q6, zU_ne (by omega), zU_ne (by omega)]; exact k5
    have f6 : I6 (q + 2) i = nI (tx (sk tx ln (sk tx ln p + 1)) - 48) := by rw [q6, zU_self]
    have s6 : I6 (q + 3) i = -1 := by rw [q6, zU_ne (by omega), zU_ne (by omega)]; exact s5
    have V6 := F6.tp V hq
    rw [f6]
    refine ⟨fun h => absurd ((tk_m1 (by omega)).mp h) id, fun _ => ⟨fun h4 => ?_, fun h4 => ?_⟩⟩
    · rw [if_pos h4] at h1 h0
      refine c_digitE S1 V6 (by omega) e6 (fun hd2 => ?_) (fun hd2 => ?_)
      · have d2 := dgB_lt hd2
        rw [if_pos hd2] at h1
        refine ⟨_, _, rfl, rfl, ini, fun I7 q7 => ⟨ini, ?_⟩⟩
        have s7 : I7 (q + 3) i = nI (tx (sk tx ln (sk tx ln (sk tx ln p + 1) + 1)) - 48) := by rw [q7, zU_self]
        rw [s7, if_neg (fun h => absurd ((tk_m1 (by omega)).mp h) id)]
        exact h1 I7 _ rfl (fun b k g1 g2 => by rw [q7, zU_ne (by omega), zU_ne (by omega)]; exact F6 b k g1 g2) (by rw [q7, zU_ne (by omega), zU_self]) (by rw [q7, zU_ne (by omega), zU_ne (by omega)]; exact k6) (by rw [q7, zU_ne (by omega), zU_ne (by omega)]; exact f6) s7
      · rw [if_neg hd2] at h0
        refine ⟨_, _, rfl, rfl, ini, fun I7 q7 => ⟨ini, ?_⟩⟩
        have s7 : I7 (q + 3) i = -1 := by rw [q7, zU_self]
        rw [s7, if_pos rfl]
        exact h0 I7 rfl (fun b k g1 g2 => by rw [q7, zU_ne (by omega), zU_ne (by omega)]; exact F6 b k g1 g2) (by rw [q7, zU_ne (by omega), zU_self])
    · rw [if_neg h4] at h1
      exact h1 I6 _ rfl F6 e6 k6 f6 s6
  · rw [if_neg hd] at h0
    refine ⟨_, _, rfl, rfl, ini, fun I6 q6 => ⟨ini, ?_⟩⟩
    have f6 : I6 (q + 2) i = -1 := by rw [q6, zU_self]
    rw [f6]
    refine ⟨fun _ => h0 I6 rfl (fun b k g1 g2 => by rw [q6, zU_ne (by omega), zU_ne (by omega)]; exact F5 b k g1 g2) (by rw [q6, zU_ne (by omega), zU_self]), fun h => absurd rfl h⟩
/-- nothing changed but where reading stands and a spring -/
def sFq (t q : Nat) (I I' : Nat → Nat → Int32) : Prop := ∀ b k, ¬ (b = t ∧ k = 2) → ¬ (q ≤ b ∧ b < q + 4) → I' b k = I b k
theorem c_sread (S : hSpr G R K n q) (S1 : hTape G R K n t) (hq : t + 1 < q) (V : TP I t ln tx) (h1 : ∀ I' z, (spP tx ln 16 0 0 (fun _ => 0)).2 = some z → sFq t q I I' → SS I' q z.1 z.2 → Q (some (.int 1)) (I', J, R, K, n)) (h0 : ∀ I', (spP tx ln 16 0 0 (fun _ => 0)).2 = none → sFq t q I I' → I' t 2 = nI (spP tx ln 16 0 0 (fun _ => 0)).1 → Q (some (.int 0)) (I', J, R, K, n)) : zC G (d + 4) mX7_read 0 0 [.ref q, .ref t] (I, J, R, K, n) Q := by
  have loop : ∀ (j i p : Nat) (P : Nat → Int32) (I2 : Nat → Nat → Int32), i + j = 16 → 0 < j → p ≤ ln → sFq t q I I2 → I2 t 2 = nI p → I2 q 3 = nI i → (∀ k, k < i → I2 (q + 1) k = P (3 * k) ∧ I2 (q + 2) k = P (3 * k + 1) ∧ I2 (q + 3) k = P (3 * k + 2) ∧ (P (3 * k) = 0 ∨ P (3 * k) = 1 ∨ P (3 * k) = 2 ∨ P (3 * k) = 3)) → (∀ I' z, (spP tx ln j i p P).2 = some z → sFq t q I I' → SS I' q z.1 z.2 → Q (some (.int 1)) (I', J, R, K, n)) → (∀ I', (spP tx ln j i p P).2 = none → sFq t q I I' → I' t 2 = nI (spP tx ln j i p P).1 → Q (some (.int 0)) (I', J, R, K, n)) → zV G (d + 4) mX7_read 0 0 10 [(0, .ref q), (1, .ref t)] [] (I2, J, R, K, n) Q := by
    intro j
    induction j with
    | zero => intro i p P I2 _ h; exact absurd h (by omega)
    | succ j ih =>
      intro i p P I2 hi _ hp F2 e2 e3 hP h1 h0
      have V2 : TP I2 t ln tx := V.same (F2 t 1 (by omega) (by omega)) (funext fun k => F2 (t + 1) k (by omega) (by omega))
      obtain ⟨a, bb⟩ := stP_le (tx := tx) hp
      have ga := sk_le (tx := tx) a
      refine wX7_read_10 q t S S1 ?_
      rw [e3]
      refine ⟨fun h => ?_, fun _ => ?_⟩
      · rw [show (16 : Int32) = nI 16 from rfl, tk_le (by omega) (by omega)] at h
        omega
      refine c_sstep S S1 hq V2 hp (by omega) e2 (fun I3 z hz F3 e3' z1 z2 z3 => ?_) (fun I3 hz F3 e3' => ?_)
      · obtain ⟨b1, b2⟩ := bb z hz
        have FF : sFq t q I I3 := fun b k g1 g2 => by rw [F3 b k g1 (by omega)]; exact F2 b k g1 g2
        have V3 := F3.tp V2 hq
        refine ⟨_, _, rfl, rfl, fun h => absurd h (by decide), fun _ => ?_⟩
        refine c_nextE S1 V3 a e3' ?_
        refine ⟨_, _, rfl, rfl, ?_⟩
        have eq3 : zU I3 t 2 (nI (sk tx ln (stP tx ln p).1)) q 3 = nI i := by rw [zU_off (by omega), F3 q 3 (by omega) (by omega), e3]
        have ent : ∀ (I4 : Nat → Nat → Int32), (∀ b k, q < b → I4 b k = I3 b k) → ∀ k, k < i + 1 → I4 (q + 1) k = ptP P i z (3 * k) ∧ I4 (q + 2) k = ptP P i z (3 * k + 1) ∧ I4 (q + 3) k = ptP P i z (3 * k + 2) ∧ (ptP P i z (3 * k) = 0 ∨ ptP P i z (3 * k) = 1 ∨ ptP P i z (3 * k) = 2 ∨ ptP P i z (3 * k) = 3) := by
          intro I4 h4 k hk
          rw [h4 _ _ (by omega), h4 _ _ (by omega), h4 _ _ (by omega)]
          by_cases ek : k = i
          · subst ek
            have p1 : ptP P k z (3 * k) = z.1 := if_pos rfl
            have p2 : ptP P k z (3 * k + 1) = z.2.1 := (if_neg (by omega)).trans (if_pos rfl)
            have p3 : ptP P k z (3 * k + 2) = z.2.2 := (if_neg (by omega)).trans ((if_neg (by omega)).trans (if_pos rfl))
            rw [p1, p2, p3]
            exact ⟨z1, z2, z3, b2⟩
          · have pn : ∀ w, w < 3 → ptP P i z (3 * k + w) = P (3 * k + w) := fun w hw => (if_neg (by omega)).trans ((if_neg (by omega)).trans (if_neg (by omega)))
            have p1 := pn 0 (by omega)
            rw [Nat.add_zero] at p1
            rw [p1, pn 1 (by omega), pn 2 (by omega), F3 _ _ (by omega) (by omega), F3 _ _ (by omega) (by omega), F3 _ _ (by omega) (by omega)]
            exact hP k (by omega)
        rw [spP, hz] at h1 h0
        simp only at h1 h0
        refine ⟨fun hl => ?_, fun hl => ?_⟩
        · rw [if_pos hl] at h1
          intro I4 q4
          rw [eq3, nI_1] at q4
          refine h1 I4 _ rfl (fun b k g1 g2 => by rw [q4, zU_ne (by omega), zU_ne (by omega)]; exact FF b k g1 g2) ⟨by show i + 1 ≤ 16; omega, by rw [q4, zU_self], ent I4 (fun b k hb => by rw [q4, zU_off (by omega), zU_off (by omega)])⟩
        · rw [if_neg hl] at h1 h0
          rw [eq3, show (15 : Int32) = nI 15 from rfl, tk_eq (by omega) (by omega)]
          refine ⟨fun h15 => ?_, fun h15 => ?_⟩
          · rw [if_pos (show j = 0 by omega)] at h0
            exact h0 _ rfl (fun b k g1 g2 => by rw [zU_ne g1]; exact FF b k g1 g2) (zU_self ..)
          · rw [if_neg (show ¬ j = 0 by omega)] at h1 h0
            have V4 : TP (zU I3 t 2 (nI (sk tx ln (stP tx ln p).1))) t ln tx := V3.same (zU_ne (by omega)) (zU_off (by omega))
            refine c_acceptE S1 V4 ga (zU_self ..) (fun h59 => ?_) (fun h59 => ?_)
            · rw [lk_sk] at h59
              rw [if_pos h59] at h1 h0
              refine ⟨_, _, rfl, rfl, fun h => absurd h (by decide), fun _ => ?_⟩
              rw [zU_off (show q ≠ t by omega), eq3, nI_1, sk_sk]
              intro I4 q4
              have hlt := lk_lt (p := (stP tx ln p).1) (tx := tx) (ln := ln) (by rw [h59]; decide)
              refine ih (i + 1) _ (ptP P i z) I4 (by omega) (by omega) (by omega) (fun b k g1 g2 => by rw [q4, zU_ne (by omega), zU_ne (by omega), zU_ne (by omega)]; exact FF b k g1 g2) (by rw [q4, zU_ne (by omega), zU_self]) (by rw [q4, zU_self]) (ent I4 (fun b k hb => by rw [q4, zU_off (by omega), zU_off (by omega), zU_off (by omega)])) h1 h0
            · rw [lk_sk] at h59
              rw [if_neg h59] at h0
              refine ⟨_, _, rfl, rfl, fun _ => h0 _ rfl (fun b k g1 g2 => by rw [zU_ne g1, zU_ne g1]; exact FF b k g1 g2) ?_, fun h => absurd rfl h⟩
              rw [zU_self, sk_sk]
      · have FF : sFq t q I I3 := fun b k g1 g2 => by rw [F3 b k g1 (by omega)]; exact F2 b k g1 g2
        rw [spP, hz] at h0
        exact ⟨_, _, rfl, rfl, fun _ => h0 I3 rfl FF e3', fun h => absurd rfl h⟩
  refine zC.of (by decide) (Nat.le_of_ble_eq_true rfl) ?_
  refine wX7_read_0 q t S S1 ?_
  intro I1 q1 I2 q2
  exact loop 16 0 0 (fun _ => 0) I2 (by omega) (by omega) (by omega) (fun b k g1 g2 => by rw [q2, zU_ne (by omega), q1, zU_ne (by omega)]) (by rw [q2, zU_ne (by omega), q1, zU_self]; rfl) (by rw [q2, zU_self]; rfl) (fun k hk => absurd hk (by omega)) h1 h0
end
