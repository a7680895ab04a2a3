/-! SPRINGS: the model's reader -/
theorem MH_st {I : Nat → Nat → Int32} {m : Nat} {x y : Int32} : zU (zU (zU (zU I m 8 x) m 9 y) m 10 0) m 11 (-1) = MH (zU (zU I m 8 x) m 9 y) m 0 (-1) (I m 12) := by
  funext b k
  unfold MH zU
  by_cases hb : b = m
  · subst hb
    simp only [if_true]
    by_cases h10 : k = 10
    · subst h10; simp; rfl
    by_cases h11 : k = 11
    · subst h11; simp
    by_cases h12 : k = 12
    · subst h12; simp
    simp [h10, h11, h12]
  · simp [hb]
theorem MH_z {I : Nat → Nat → Int32} {m p b k : Nat} {f e v : Int32} (h : b ≠ m) : zU (MH I m p f e) b k v = MH (zU I b k v) m p f e := by
  funext a j
  unfold MH zU
  by_cases ha : a = m
  · subst ha
    simp [Ne.symm h]
  · simp [ha]
def stI (I : Nat → Nat → Int32) (m ln : Nat) : Nat → Nat → Int32 := zU (zU I m 8 0) m 9 (nI ln)
theorem idx5 (c : Int32) : idxA 5 c = kdA c := by
  show (if chrA 5 0 = c then nI 0 else if chrA 5 1 = c then nI 1 else if chrA 5 2 = c then nI 2 else if chrA 5 3 = c then nI 3 else -1) = _
  rw [show chrA 5 0 = 102 by decide, show chrA 5 1 = 112 by decide, show chrA 5 2 = 105 by decide, show chrA 5 3 = 110 by decide]
  unfold kdA
  by_cases h1 : c = 102
  · rw [if_pos h1.symm, if_pos h1]; rfl
  rw [if_neg (Ne.symm h1), if_neg h1]
  by_cases h2 : c = 112
  · rw [if_pos h2.symm, if_pos h2]; rfl
  rw [if_neg (Ne.symm h2), if_neg h2]
  by_cases h3 : c = 105
  · rw [if_pos h3.symm, if_pos h3]; rfl
  rw [if_neg (Ne.symm h3), if_neg h3]
  by_cases h4 : c = 110
  · rw [if_pos h4.symm, if_pos h4]; rfl
  rw [if_neg (Ne.symm h4), if_neg h4]
section
variable {G : zG} {d : Nat} {I : Nat → Nat → Int32} {J : Nat → Nat → Int64} {R : Nat → Nat → Option Nat} {K : Nat → Nat × Nat} {n : Nat} {m t c bg ln p : Nat} {tx : Nat → Nat} {e : Int32} {Q : Option Value → zH → Prop}
theorem TM.z {b k : Nat} {v : Int32} (V : TM I m t c bg ln tx) (h : b ≠ m) (h2 : b ≠ t) : TM (zU I b k v) m t c bg ln tx := by
  obtain ⟨v1, v2, v3, v4, v5, v6⟩ := V
  refine ⟨v1, v2, v3, by rw [zU_off (Ne.symm h)]; exact v4, by rw [zU_off (Ne.symm h)]; exact v5, fun k hk => by rw [zU_off (Ne.symm h2)]; exact v6 k hk⟩
theorem TM.fr {I' : Nat → Nat → Int32} (V : TM I m t c bg ln tx) (h8 : I' m 8 = I m 8) (h9 : I' m 9 = I m 9) (ht : I' t = I t) : TM I' m t c bg ln tx := by
  obtain ⟨v1, v2, v3, v4, v5, v6⟩ := V
  exact ⟨v1, v2, v3, by rw [h8]; exact v4, by rw [h9]; exact v5, fun k hk => by rw [ht]; exact v6 k hk⟩
theorem TM.b (V : TM I m t c bg ln tx) : ∀ k, k < ln → 1 ≤ tx k ∧ tx k < 256 := fun k hk => (V.2.2.2.2.2 k hk).2
theorem c_mdigit (S : hMod G R K n m t c) (V : TM I m t c bg ln tx) (hp : p ≤ ln) (h1 : dgB tx ln (sk tx ln p) = true → Q (some (.int (nI (tx (sk tx ln p) - 48)))) (MH I m (sk tx ln p + 1) (-1) e, J, R, K, n)) (h0 : ¬ dgB tx ln (sk tx ln p) = true → Q (some (.int 0)) (MH I m (sk tx ln p) (nI (sk tx ln p)) e, J, R, K, n)) : zC G (d + 2) mX12_digit 0 0 [.ref m] (MH I m p (-1) e, J, R, K, n) Q := by
  have a1 := sk_le (tx := tx) hp
  refine zC.of (by decide) (Nat.le_of_ble_eq_true rfl) ?_
  refine wX12_digit_0 m t c S ?_
  refine c_look S V hp ?_
  refine ⟨_, _, rfl, rfl, ?_⟩
  refine c_isDigit S V a1 ?_
  refine ⟨_, _, rfl, rfl, ?_⟩
  by_cases hd : dgB tx ln (sk tx ln p) = true
  · rw [if_pos hd]
    refine ⟨fun h => absurd h (by decide), fun _ => ?_⟩
    rintro _ rfl
    have d1 := dgB_lt hd
    rw [MH_at.1, nI_1, MH_10]
    refine qI ?_ (h1 hd)
    have el : lk tx ln p = nI (tx (sk tx ln p)) := if_pos d1.1
    rw [el, show (48 : Int32) = nI 48 from rfl, tk_sub (by omega)]
  · rw [if_neg hd]
    refine ⟨fun _ => ?_, fun h => absurd rfl h⟩
    refine c_fails S ?_
    refine ⟨_, _, rfl, rfl, ?_⟩
    exact h0 hd
/-- nothing changed but a step of the plan being read -/
def mFr (m r : Nat) (I I' : Nat → Nat → Int32) : Prop := ∀ b k, ¬ (b = m + 11 ∧ r ≤ k ∧ k < r + 3) → I' b k = I b k
theorem c_mstep {r : Nat} (S : hMod G R K n m t c) (ht : t ≠ m ∧ t ≠ m + 11) (V : TM I m t c bg ln tx) (hp : p ≤ ln) (hr : r + 3 ≤ 240) (h1 : ∀ I' z, (stP tx ln p).2 = some z → mFr m r I I' → I' (m + 11) r = z.1 → I' (m + 11) (r + 1) = z.2.1 → I' (m + 11) (r + 2) = z.2.2 → Q none (MH I' m (stP tx ln p).1 (-1) e, J, R, K, n)) (h0 : ∀ I' p', (stP tx ln p).2 = none → mFr m r I I' → Q none (MH I' m p' (nI (stP tx ln p).1) e, J, R, K, n)) : zC G (d + 6) mX12_readStep 0 0 [.ref m, .int (nI r)] (MH I m p (-1) e, J, R, K, n) Q := by
  have a1 := sk_le (tx := tx) hp
  have in0 : vp_in (nI r) 240 := (tk_in (by omega) (by omega)).mpr (by omega)
  have in1 : vp_in (nI (r + 1)) 240 := (tk_in (by omega) (by omega)).mpr (by omega)
  have in2 : vp_in (nI (r + 2)) 240 := (tk_in (by omega) (by omega)).mpr (by omega)
  refine zC.of (by decide) (Nat.le_of_ble_eq_true rfl) ?_
  refine wX12_readStep_0 m t c S _ ?_
  refine c_look S V hp ?_
  refine ⟨_, _, rfl, rfl, ?_⟩
  refine c_spotOf (by omega) ?_
  refine ⟨_, _, rfl, rfl, ?_⟩
  rw [idx5, nI_1, show (nI r + 2 : Int32) = nI (r + 2) from nI_add r 2, tk_c (by omega), tk_c (by omega), tk_c (by omega)]
  unfold stP at h1 h0
  rcases kdA_in (lk tx ln p) with hk | ⟨hk0, hk⟩
  · rw [if_pos hk] at h0
    refine ⟨fun _ => ?_, fun h => absurd hk h⟩
    refine c_fails S ?_
    refine ⟨_, _, rfl, rfl, ?_⟩
    exact h0 I _ rfl (fun _ _ _ => rfl)
  have l1 := lk_lt hk0
  have hm : ¬ kdA (lk tx ln p) = -1 := by rcases hk with h | h | h | h <;> rw [h] <;> decide
  rw [if_neg hm] at h1 h0
  refine ⟨fun h => absurd h hm, fun _ => ?_⟩
  rw [MH_at.1, nI_1, MH_10]
  intro I2 q2
  refine ⟨in0, fun I3 q3 => ⟨in1, fun I4 q4 => ⟨in2, fun I5 q5 => ?_⟩⟩⟩
  rw [q2, MH_z (by omega)] at q3
  rw [q3, MH_z (by omega)] at q4
  rw [q4, MH_z (by omega)] at q5
  obtain ⟨A5, eA5⟩ : ∃ A, A = zU (zU (zU I (m + 11) r (kdA (lk tx ln p))) (m + 11) (r + 1) (-1)) (m + 11) (r + 2) (-1) := ⟨_, rfl⟩
  rw [← eA5] at q5
  subst q5
  have F5 : mFr m r I A5 := fun b k g => by rw [eA5, zU_ne (by omega), zU_ne (by omega), zU_ne (by omega)]
  have k5 : A5 (m + 11) r = kdA (lk tx ln p) := by rw [eA5, zU_ne (by omega), zU_ne (by omega), zU_self]
  have f5 : A5 (m + 11) (r + 1) = -1 := by rw [eA5, zU_ne (by omega), zU_self]
  have s5 : A5 (m + 11) (r + 2) = -1 := by rw [eA5, zU_self]
  have tf : ∀ A, mFr m r I A → TM A m t c bg ln tx := fun A F => V.fr (F m 8 (by omega)) (F m 9 (by omega)) (funext fun k => F t k (by omega))
  refine ⟨fun h3 => ?_, fun h3 => ?_⟩
  · rw [if_pos h3] at h1
    exact h1 A5 _ rfl F5 (by rw [k5, h3]) f5 s5
  rw [if_neg h3] at h1 h0
  refine c_mdigit S (tf A5 F5) (by omega) (fun hd => ?_) (fun hd => ?_)
  · have d1 := dgB_lt hd
    rw [if_pos hd] at h1 h0
    refine ⟨_, _, rfl, rfl, in1, fun I6 q6 => ?_⟩
    rw [MH_z (by omega)] at q6
    obtain ⟨A6, eA6⟩ : ∃ A, A = zU A5 (m + 11) (r + 1) (nI (tx (sk tx ln (sk tx ln p + 1)) - 48)) := ⟨_, rfl⟩
    rw [← eA6] at q6
    subst q6
    have F6 : mFr m r I A6 := fun b k g => by rw [eA6, zU_ne (by omega)]; exact F5 b k g
    have k6 : A6 (m + 11) r = kdA (lk tx ln p) := by rw [eA6, zU_ne (by omega)]; exact k5
    have f6 : A6 (m + 11) (r + 1) = nI (tx (sk tx ln (sk tx ln p + 1)) - 48) := by rw [eA6, zU_self]
    have s6 : A6 (m + 11) (r + 2) = -1 := by rw [eA6, zU_ne (by omega)]; exact s5
    rw [MH_at.2.1]
    refine ⟨fun _ => ⟨fun h4 => ?_, fun h4 => ?_⟩, fun h => absurd rfl h⟩
    · rw [if_pos h4] at h1 h0
      refine c_mdigit S (tf A6 F6) (by omega) (fun hd2 => ?_) (fun hd2 => ?_)
      · rw [if_pos hd2] at h1
        refine ⟨_, _, rfl, rfl, in2, fun I7 q7 => ?_⟩
        rw [MH_z (by omega)] at q7
        subst q7
        exact h1 _ _ rfl (fun b k g => by rw [zU_ne (by omega)]; exact F6 b k g) (by rw [zU_ne (by omega)]; exact k6) (by rw [zU_ne (by omega)]; exact f6) (by rw [zU_self])
      · rw [if_neg hd2] at h0
        refine ⟨_, _, rfl, rfl, in2, fun I7 q7 => ?_⟩
        rw [MH_z (by omega)] at q7
        subst q7
        exact h0 _ _ rfl (fun b k g => by rw [zU_ne (by omega)]; exact F6 b k g)
    · rw [if_neg h4] at h1
      exact h1 A6 _ rfl F6 k6 f6 s6
  · rw [if_neg hd] at h0
    refine ⟨_, _, rfl, rfl, in1, fun I6 q6 => ?_⟩
    rw [MH_z (by omega)] at q6
    subst q6
    have a2 := sk_le (tx := tx) (ln := ln) (p := sk tx ln p + 1) (by omega)
    have v1 := V.1
    rw [MH_at.2.1]
    refine ⟨fun h => absurd ((tk_m1 (by omega)).mp h) id, fun _ => ?_⟩
    exact h0 _ _ rfl (fun b k g => by rw [zU_ne (by omega)]; exact F5 b k g)
/-- nothing changed but the plan being read -/
def mFp (m : Nat) (I I' : Nat → Nat → Int32) : Prop := ∀ b k, ¬ (b = m + 11 ∧ 192 ≤ k) → ¬ (b = m + 12 ∧ k = 4) → I' b k = I b k
theorem c_mplan (S : hMod G R K n m t c) (ht : t ≠ m ∧ t ≠ m + 11 ∧ t ≠ m + 12) (V : TM I m t c bg ln tx) (h1 : ∀ I' z p', (spP tx ln 16 0 0 (fun _ => 0)).2 = some z → mFp m I I' → z.1 ≤ 16 → I' (m + 12) 4 = nI z.1 → (∀ j, j < z.1 → I' (m + 11) (192 + 3 * j) = z.2 (3 * j) ∧ I' (m + 11) (192 + 3 * j + 1) = z.2 (3 * j + 1) ∧ I' (m + 11) (192 + 3 * j + 2) = z.2 (3 * j + 2) ∧ (z.2 (3 * j) = 0 ∨ z.2 (3 * j) = 1 ∨ z.2 (3 * j) = 2 ∨ z.2 (3 * j) = 3)) → Q none (MH I' m p' (-1) e, J, R, K, n)) (h0 : ∀ I' p', (spP tx ln 16 0 0 (fun _ => 0)).2 = none → mFp m I I' → Q none (MH I' m p' (nI (spP tx ln 16 0 0 (fun _ => 0)).1) e, J, R, K, n)) : zV G (d + 7) mX12_readPlan 0 0 17 [(0, .ref m), (1, .int (nI 0)), (2, .int 1)] [] (MH I m 0 (-1) e, J, R, K, n) Q := by
  have loop : ∀ (j i p : Nat) (P : Nat → Int32) (I2 : Nat → Nat → Int32), i + j = 16 → 0 < j → p ≤ ln → mFp m I I2 → (∀ k, k < i → I2 (m + 11) (192 + 3 * k) = P (3 * k) ∧ I2 (m + 11) (192 + 3 * k + 1) = P (3 * k + 1) ∧ I2 (m + 11) (192 + 3 * k + 2) = P (3 * k + 2) ∧ (P (3 * k) = 0 ∨ P (3 * k) = 1 ∨ P (3 * k) = 2 ∨ P (3 * k) = 3)) → (∀ I' z p', (spP tx ln j i p P).2 = some z → mFp m I I' → z.1 ≤ 16 → I' (m + 12) 4 = nI z.1 → (∀ j, j < z.1 → I' (m + 11) (192 + 3 * j) = z.2 (3 * j) ∧ I' (m + 11) (192 + 3 * j + 1) = z.2 (3 * j + 1) ∧ I' (m + 11) (192 + 3 * j + 2) = z.2 (3 * j + 2) ∧ (z.2 (3 * j) = 0 ∨ z.2 (3 * j) = 1 ∨ z.2 (3 * j) = 2 ∨ z.2 (3 * j) = 3)) → Q none (MH I' m p' (-1) e, J, R, K, n)) → (∀ I' p', (spP tx ln j i p P).2 = none → mFp m I I' → Q none (MH I' m p' (nI (spP tx ln j i p P).1) e, J, R, K, n)) → zV G (d + 7) mX12_readPlan 0 0 17 [(0, .ref m), (1, .int (nI i)), (2, .int 1)] [] (MH I2 m p (-1) e, J, R, K, n) Q := by
    intro j
    induction j with
    | zero => intro i p P I2 _ h; exact absurd h (by omega)
    | succ j ih =>
      intro i p P I2 hi _ hp F2 hP h1 h0
      have tf : ∀ A, mFp m I A → TM A m t c bg ln tx := fun A F => V.fr (F m 8 (by omega) (by omega)) (F m 9 (by omega) (by omega)) (funext fun k => F t k (by omega) (by omega))
      obtain ⟨a, bb⟩ := stP_le (tx := tx) hp
      have ga := sk_le (tx := tx) a
      have v1 := V.1
      refine wX12_readPlan_17 m t c S _ _ ⟨fun h => absurd h (by decide), fun _ => ?_⟩
      rw [show (3 * (64 + nI i) : Int32) = nI (192 + 3 * i) by rw [show (64 : Int32) = nI 64 from rfl, nI_add, show (3 : Int32) = nI 3 from rfl, pk_mul]; exact congrArg nI (by omega), nI_1]
      refine c_mstep S ⟨ht.1, ht.2.1⟩ (tf I2 F2) hp (by omega) (fun I3 z hz F3 z1 z2 z3 => ?_) (fun I3 p' hz F3 => ?_)
      · obtain ⟨b1, b2⟩ := bb z hz
        have FF : mFp m I I3 := fun b k g1 g2 => by rw [F3 b k (by omega)]; exact F2 b k g1 g2
        refine ⟨_, rfl, rfl, ?_⟩
        rw [MH_at.2.1]
        refine ⟨fun _ => ?_, fun h => absurd rfl h⟩
        refine c_look S (tf I3 FF) a ?_
        refine ⟨_, _, rfl, rfl, ?_⟩
        have ent : ∀ k, k < i + 1 → I3 (m + 11) (192 + 3 * k) = ptP P i z (3 * k) ∧ I3 (m + 11) (192 + 3 * k + 1) = ptP P i z (3 * k + 1) ∧ I3 (m + 11) (192 + 3 * k + 2) = ptP P i z (3 * k + 2) ∧ (ptP P i z (3 * k) = 0 ∨ ptP P i z (3 * k) = 1 ∨ ptP P i z (3 * k) = 2 ∨ ptP P i z (3 * k) = 3) := by
          intro k hk
          by_cases ek : k = i
          · subst ek
            have p1 : ptP P k z (3 * k) = z.1 := if_pos rfl
            have p2 : ptP P k z (3 * k + 1) = z.2.1 := (if_neg (by omega)).trans (if_pos rfl)
            have p3 : ptP P k z (3 * k + 2) = z.2.2 := (if_neg (by omega)).trans ((if_neg (by omega)).trans (if_pos rfl))
            rw [p1, p2, p3]
            exact ⟨z1, z2, z3, b2⟩
          · have pn : ∀ w, w < 3 → ptP P i z (3 * k + w) = P (3 * k + w) := fun w hw => (if_neg (by omega)).trans ((if_neg (by omega)).trans (if_neg (by omega)))
            have p1 := pn 0 (by omega)
            rw [Nat.add_zero] at p1
            rw [p1, pn 1 (by omega), pn 2 (by omega), F3 _ _ (by omega), F3 _ _ (by omega), F3 _ _ (by omega)]
            exact hP k (by omega)
        rw [spP, hz] at h1 h0
        simp only at h1 h0
        have fin : lk tx ln (stP tx ln p).1 ≠ 59 → (lk tx ln (stP tx ln p).1 = -1 ∨ (spP tx ln (j + 1) i p P).2 = none ∧ (spP tx ln (j + 1) i p P).1 = sk tx ln (stP tx ln p).1) → zV G (d + 7) mX12_readPlan 0 0 17 [(0, .ref m), (1, .int (nI (i + 1))), (2, .int 0)] [] (MH I3 m (sk tx ln (stP tx ln p).1) (-1) e, J, R, K, n) Q := by
          intro hn _
          refine wX12_readPlan_17 m t c S _ _ ⟨fun _ => ⟨(tk_in (n := 4) (by omega) (by omega)).mpr (by omega), fun I4 q4 => ?_⟩, fun h => absurd rfl h⟩
          rw [MH_z (by omega), show (4 : Int32).toNatClampNeg = 4 from rfl] at q4
          subst q4
          have F4 : mFp m I (zU I3 (m + 12) 4 (nI (i + 1))) := fun b k g1 g2 => by rw [zU_ne (by omega)]; exact FF b k g1 g2
          refine c_look S (tf _ F4) ga ?_
          refine ⟨_, _, rfl, rfl, ?_⟩
          rw [lk_sk, sk_sk]
          refine ⟨fun hl => ?_, fun hl => ?_⟩
          · rw [if_pos hl] at h1
            exact h1 _ _ _ rfl F4 (by show i + 1 ≤ 16; omega) (by rw [zU_self]) (fun k hk => by rw [zU_off (by omega)]; exact ent k hk)
          · rw [if_neg hl] at h0
            have h0' : ∀ (I' : Nat → Nat → Int32) (p' : Nat), mFp m I I' → Q none (MH I' m p' (nI (sk tx ln (stP tx ln p).1)) e, J, R, K, n) := by
              intro I' p' F'
              by_cases hj : j = 0
              · rw [if_pos hj] at h0
                exact h0 I' p' rfl F'
              · rw [if_neg hj, if_neg hn] at h0
                exact h0 I' p' rfl F'
            refine c_fails S ?_
            refine ⟨_, _, rfl, rfl, ?_⟩
            exact h0' _ _ F4
        by_cases h59 : lk tx ln (stP tx ln p).1 = 59
        · rw [if_pos h59]
          have hl : ¬ lk tx ln (stP tx ln p).1 = -1 := by rw [h59]; decide
          rw [if_neg hl] at h1 h0
          refine ⟨fun h => absurd h (by decide), fun _ => ?_⟩
          rw [show (16 : Int32) = nI 16 from rfl, tk_eq (by omega) (by omega)]
          refine ⟨fun h16 => ?_, fun h16 => ⟨fun h => absurd h (by decide), fun _ => ?_⟩⟩
          · rw [if_pos (show j = 0 by omega)] at h0
            refine c_fails S ?_
            refine ⟨_, _, rfl, rfl, ?_⟩
            exact h0 I3 _ rfl FF
          · rw [if_neg (show ¬ j = 0 by omega), if_pos h59] at h1 h0
            intro I4 q4
            rw [MH_at.1, nI_1, MH_10] at q4
            subst q4
            have hlt := lk_lt (p := (stP tx ln p).1) (tx := tx) (ln := ln) (by rw [h59]; decide)
            exact ih (i + 1) _ (ptP P i z) I3 (by omega) (by omega) (by omega) FF ent h1 h0
        · rw [if_neg h59]
          refine ⟨fun _ => ⟨fun _ => ?_, fun h => absurd rfl h⟩, fun h => absurd rfl h⟩
          refine fin h59 ?_
          by_cases hl : lk tx ln (stP tx ln p).1 = -1
          · exact Or.inl hl
          · refine Or.inr ?_
            rw [spP, hz]
            simp only
            rw [if_neg hl]
            by_cases hj : j = 0
            · rw [if_pos hj]; exact ⟨rfl, rfl⟩
            · rw [if_neg hj, if_neg h59]; exact ⟨rfl, rfl⟩
      · have FF : mFp m I I3 := fun b k g1 g2 => by rw [F3 b k (by omega)]; exact F2 b k g1 g2
        rw [spP, hz] at h0
        refine ⟨_, rfl, rfl, ?_⟩
        rw [MH_at.2.1]
        exact ⟨fun h => absurd ((tk_m1 (by omega)).mp h) id, fun _ => h0 I3 p' rfl FF⟩
  exact loop 16 0 0 (fun _ => 0) I (by omega) (by omega) (by omega) (fun _ _ _ _ => rfl) (fun k hk => absurd hk (by omega)) h1 h0
theorem hMod_tape (S : hMod G R K n m t c) : hMod G (zU R m 5 (some (m + 1))) K n m (m + 1) 240 := hMod_text S (Mod_2 S) (by omega)
theorem TM_st (hT : mT I m (ln, tx)) : TM (stI I m ln) m (m + 1) 240 0 ln tx := by
  unfold stI
  refine ⟨hT.1, by have := hT.1; omega, by omega, by rw [zU_ne (by omega), zU_self]; rfl, by rw [zU_self], fun k hk => ?_⟩
  rw [zU_off (by omega), zU_off (by omega), Nat.zero_add]
  exact hT.2.2 k hk
theorem c_readPlan (S : hMod G R K n m t c) (hT : mT I m (ln, tx)) (h1 : ∀ I' z p', (spP tx ln 16 0 0 (fun _ => 0)).2 = some z → mFp m (stI I m ln) I' → z.1 ≤ 16 → I' (m + 12) 4 = nI z.1 → (∀ j, j < z.1 → I' (m + 11) (192 + 3 * j) = z.2 (3 * j) ∧ I' (m + 11) (192 + 3 * j + 1) = z.2 (3 * j + 1) ∧ I' (m + 11) (192 + 3 * j + 2) = z.2 (3 * j + 2) ∧ (z.2 (3 * j) = 0 ∨ z.2 (3 * j) = 1 ∨ z.2 (3 * j) = 2 ∨ z.2 (3 * j) = 3)) → Q none (MH I' m p' (-1) (I m 12), J, zU R m 5 (some (m + 1)), K, n)) (h0 : ∀ I' p', (spP tx ln 16 0 0 (fun _ => 0)).2 = none → mFp m (stI I m ln) I' → Q none (MH I' m p' (nI (spP tx ln 16 0 0 (fun _ => 0)).1) (I m 12), J, zU R m 5 (some (m + 1)), K, n)) : zC G (d + 7) mX12_readPlan 0 0 [.ref m] (I, J, R, K, n) Q := by
  have SR := hMod_tape S
  refine zC.of (by decide) (Nat.le_of_ble_eq_true rfl) ?_
  refine wX12_readPlan_0 m t c S ?_
  rw [hT.2.1]
  refine zC.of (by decide) (Nat.le_of_ble_eq_true rfl) ?_
  refine wX12_starts_0 m t c (m + 1) 240 (Mod_2 S) S _ _ ?_
  rintro R1 rfl
  refine ⟨m + 1, 240, SR, ?_⟩
  rintro _ rfl _ rfl _ rfl _ rfl
  refine ⟨_, _, _, rfl, rfl, m + 1, 240, SR, ?_⟩
  rw [MH_st]
  exact c_mplan SR ⟨by omega, by omega, by omega⟩ (TM_st hT) h1 h0
end
