/-! VILLAGES: the model's reader -/
def kcV (i : Nat) : Int32 := if i = 0 then 115 else if i = 1 then 102 else 119
theorem us_eq : ∀ k : Nat, k < 3 → ((if nI k = 0 then 40 else 20 : Int32) = nI (usV 0 k) ∧ (if nI k = 0 then 10 else 3 : Int32) = nI (usV 1 k) ∧ (if nI k = 0 then 0 else (if nI k = 1 then 1 else 3) : Int32) = nI (usV 2 k)) := by decide +kernel
theorem lo_eq : ∀ i : Nat, i < 3 → ∀ k : Nat, k < 3 → (if kcV i = 102 then (if nI k = 0 then 1 else (if kcV i = 119 then (if nI k = 2 then 1 else 0) else 0)) else (if kcV i = 119 then (if nI k = 2 then 1 else 0) else 0) : Int32) = nI (loV i k) := by decide +kernel
theorem hi_eq : ∀ k : Nat, k < 3 → ((99 : Int32) = nI (hiV 0 k) ∧ (if nI k = 0 then 40 else 9 : Int32) = nI (hiV 1 k) ∧ (if 2 ≤ nI k then 9 else 5 : Int32) = nI (hiV 2 k)) := by decide +kernel
section
variable {G : zG} {d : Nat} {I : Nat → Nat → Int32} {J : Nat → Nat → Int64} {R : Nat → Nat → Option Nat} {K : Nat → Nat × Nat} {n : Nat} {m t c bg ln p : Nat} {tx : Nat → Nat} {e : Int32} {s : Vt × Bool} {Q : Option Value → zH → Prop}
theorem c_usual {i k : Nat} (hi : i < 3) (hk : k < 3) (hQ : Q (some (.int (nI (usV i k)))) (I, J, R, K, n)) : zC G (d + 1) mX12_usual 0 0 [.int (kcV i), .int (nI k)] (I, J, R, K, n) Q := by
  obtain ⟨u1, u2, u3⟩ := us_eq k hk
  refine zC.of (by decide) (Nat.le_of_ble_eq_true rfl) ?_
  refine wX12_usual_0 _ _ ?_
  have : i = 0 ∨ i = 1 ∨ i = 2 := by omega
  rcases this with rfl | rfl | rfl
  · exact ⟨fun _ => qI u1.symm hQ, fun h => absurd (by decide) h⟩
  · exact ⟨fun h => absurd h (by decide), fun _ => ⟨fun _ => qI u2.symm hQ, fun h => absurd (by decide) h⟩⟩
  · exact ⟨fun h => absurd h (by decide), fun _ => ⟨fun h => absurd h (by decide), fun _ => qI u3.symm hQ⟩⟩
theorem c_leastOf {i k : Nat} (hi : i < 3) (hk : k < 3) (hQ : Q (some (.int (nI (loV i k)))) (I, J, R, K, n)) : zC G (d + 1) mX12_leastOf 0 0 [.int (kcV i), .int (nI k)] (I, J, R, K, n) Q := by
  refine zC.of (by decide) (Nat.le_of_ble_eq_true rfl) ?_
  refine wX12_leastOf_0 _ _ ?_
  exact qI (lo_eq i hi k hk).symm hQ
theorem c_mostOf {i k : Nat} (hi : i < 3) (hk : k < 3) (hQ : Q (some (.int (nI (hiV i k)))) (I, J, R, K, n)) : zC G (d + 1) mX12_mostOf 0 0 [.int (kcV i), .int (nI k)] (I, J, R, K, n) Q := by
  obtain ⟨u1, u2, u3⟩ := hi_eq k hk
  refine zC.of (by decide) (Nat.le_of_ble_eq_true rfl) ?_
  refine wX12_mostOf_0 _ _ ?_
  have : i = 0 ∨ i = 1 ∨ i = 2 := by omega
  rcases this with rfl | rfl | rfl
  · exact ⟨fun _ => qI u1.symm hQ, fun h => absurd (by decide) h⟩
  · exact ⟨fun h => absurd h (by decide), fun _ => ⟨fun _ => qI u2.symm hQ, fun h => absurd (by decide) h⟩⟩
  · exact ⟨fun h => absurd h (by decide), fun _ => ⟨fun h => absurd h (by decide), fun _ => qI u3.symm hQ⟩⟩
theorem c_isInN {v lo hi : Nat} (hv : v < 2147483648) (hl : lo < 2147483648) (hh : hi < 2147483648) (h1 : ¬ (v < lo ∨ hi < v) → Q (some (.int 1)) (I, J, R, K, n)) (h0 : (v < lo ∨ hi < v) → Q (some (.int 0)) (I, J, R, K, n)) : zC G (d + 1) mX12_isIn 0 0 [.long (nI v).toInt64, .long (nI lo).toInt64, .long (nI hi).toInt64] (I, J, R, K, n) Q := by
  have t : ∀ k : Nat, k < 2147483648 → (nI k).toInt64.toInt = (k : Int) := fun k hk => by rw [nI_l (by omega), pk_lT (by omega)]
  refine c_isIn (fun a b => ?_) (fun a => ?_)
  · rw [t _ hv, t _ hl] at a
    rw [t _ hv, t _ hh] at b
    exact h1 (by omega)
  · rw [t _ hv, t _ hl, t _ hh] at a
    refine h0 ?_
    by_cases h : v < lo
    · exact Or.inl h
    · by_cases h2 : hi < v
      · exact Or.inr h2
      · exact absurd (a (by omega) (by omega)) not_false
theorem c_mnumber {lo hi : Nat} (S : hMod G R K n m t c) (V : TM I m t c bg ln tx) (hp : p ≤ ln) (hl : lo < 2147483648) (hh : hi < 2147483648) (h1 : ∀ v, (nmA tx ln 2 p).2 = some v → ¬ (v < lo ∨ hi < v) → Q (some (.int (nI v))) (MH I m (nmA tx ln 2 p).1 (-1) e, J, R, K, n)) (h2 : ∀ v x p', (nmA tx ln 2 p).2 = some v → (v < lo ∨ hi < v) → Q (some (.int x)) (MH I m p' (nI ((nmA tx ln 2 p).1 - 1)) e, J, R, K, n)) (h0 : (nmA tx ln 2 p).2 = none → ∀ x p', Q (some (.int x)) (MH I m p' (nI (nmA tx ln 2 p).1) e, J, R, K, n)) : zC G (d + 2) mX12_number 0 0 [.ref m, .int (nI lo), .int (nI hi)] (MH I m p (-1) e, J, R, K, n) Q := by
  have a1 := sk_le (tx := tx) hp
  have vb := V.b
  unfold nmA at h1 h2 h0
  refine zC.of (by decide) (Nat.le_of_ble_eq_true rfl) ?_
  refine wX12_number_0 m t c S _ _ ?_
  refine c_look S V hp ?_
  refine ⟨_, _, rfl, rfl, ?_⟩
  refine c_isDigit S V a1 ?_
  refine ⟨_, _, rfl, rfl, ?_⟩
  by_cases d0 : dgB tx ln (sk tx ln p) = true
  · obtain ⟨l0, b0, b1⟩ := dgB_lt d0
    have el : lk tx ln p = nI (tx (sk tx ln p)) := if_pos l0
    rw [if_pos d0] at h1 h2 h0 ⊢
    rw [el, show (48 : Int32) = nI 48 from rfl, tk_sub b0]
    refine ⟨fun h => absurd h (by decide), fun _ => ?_⟩
    rintro _ rfl
    rw [MH_at.1, nI_1, MH_10]
    refine c_isDigit S V (show sk tx ln p + 1 ≤ ln by omega) ?_
    refine ⟨_, _, rfl, rfl, ?_⟩
    rw [numF, if_pos d0] at h1 h2 h0
    by_cases d1 : dgB tx ln (sk tx ln p + 1) = true
    · obtain ⟨l2, b2, b3⟩ := dgB_lt d1
      rw [if_pos d1]
      rw [numF, if_pos d1, numF] at h1 h2 h0
      refine ⟨fun h => absurd h (by decide), fun _ => ?_⟩
      refine c_here S V l2 ?_
      refine ⟨_, _, rfl, rfl, ?_⟩
      intro I7 q7
      rw [MH_at.1, nI_1, MH_10] at q7
      subst q7
      rw [show (10 * nI (tx (sk tx ln p) - 48) : Int32) = nI (10 * (tx (sk tx ln p) - 48)) by rw [show (10 : Int32) = nI 10 from rfl, pk_mul], nI_add, tk_sub (by omega), show 10 * (tx (sk tx ln p) - 48) + tx (sk tx ln p + 1) - 48 = 10 * (10 * 0 + (tx (sk tx ln p) - 48)) + (tx (sk tx ln p + 1) - 48) by omega]
      refine c_isDigit S V (show sk tx ln p + 1 + 1 ≤ ln by omega) ?_
      refine ⟨_, _, rfl, rfl, ?_⟩
      by_cases d2 : dgB tx ln (sk tx ln p + 1 + 1) = true
      · rw [if_pos d2] at h0 ⊢
        refine ⟨fun h => absurd h (by decide), fun _ => ?_⟩
        refine c_fails S ?_
        refine ⟨_, _, rfl, rfl, ?_⟩
        exact h0 rfl _ _
      · rw [if_neg d2] at h1 h2 ⊢
        refine ⟨fun _ => ?_, fun h => absurd rfl h⟩
        refine c_isInN (by omega) hl hh (fun hb => ⟨_, _, rfl, rfl, fun h => absurd h (by decide), fun _ => h1 _ rfl hb⟩) (fun hb => ⟨_, _, rfl, rfl, fun _ => ?_, fun h => absurd rfl h⟩)
        intro I8 q8
        rw [MH_at.1, show (1 : Int32) = nI 1 from rfl, tk_sub (by omega), MH_10] at q8
        subst q8
        refine c_fails S ?_
        refine ⟨_, _, rfl, rfl, ?_⟩
        exact h2 _ _ _ rfl hb
    · rw [if_neg d1]
      rw [numF, if_neg d1] at h1 h2 h0
      refine ⟨fun _ => ?_, fun h => absurd rfl h⟩
      refine c_isDigit S V (show sk tx ln p + 1 ≤ ln by omega) ?_
      refine ⟨_, _, rfl, rfl, ?_⟩
      rw [if_neg d1] at h1 h2 ⊢
      refine ⟨fun _ => ?_, fun h => absurd rfl h⟩
      rw [show tx (sk tx ln p) - 48 = 10 * 0 + (tx (sk tx ln p) - 48) by omega]
      refine c_isInN (by omega) hl hh (fun hb => ⟨_, _, rfl, rfl, fun h => absurd h (by decide), fun _ => h1 _ rfl hb⟩) (fun hb => ⟨_, _, rfl, rfl, fun _ => ?_, fun h => absurd rfl h⟩)
      intro I8 q8
      rw [MH_at.1, show (1 : Int32) = nI 1 from rfl, tk_sub (by omega), MH_10] at q8
      subst q8
      refine c_fails S ?_
      refine ⟨_, _, rfl, rfl, ?_⟩
      exact h2 _ _ _ rfl hb
  · rw [if_neg d0] at h0 ⊢
    refine ⟨fun _ => ?_, fun h => absurd rfl h⟩
    refine c_fails S ?_
    refine ⟨_, _, rfl, rfl, ?_⟩
    exact h0 rfl _ _
/-- nothing changed but a clause's items -/
def mFi (b r l : Nat) (I I' : Nat → Nat → Int32) : Prop := ∀ a k, ¬ (a = b ∧ r ≤ k ∧ k < r + l) → I' a k = I a k
theorem mFi.tm {I' : Nat → Nat → Int32} {b r l : Nat} (F : mFi b r l I I') (V : TM I m t c bg ln tx) (h1 : b ≠ m) (h2 : b ≠ t) : TM I' m t c bg ln tx := V.fr (F m 8 (by omega)) (F m 9 (by omega)) (funext fun k => F t k (by omega))
theorem c_mitems {i b r l : Nat} (hi : i < 3) (S : hMod G R K n m t c) (hb : sA G K n b 32 l) (hl : r + lenA i ≤ l) (hl2 : l < 1000) (h1 : b ≠ m) (h2 : b ≠ t) (V : TM I m t c bg ln tx) (hp : p ≤ ln) (hY : ∀ I' g, (itP tx ln i 4 0 (usV i) p).2 = some g → mFi b r (lenA i) I I' → (∀ k, k < lenA i → I' b (r + k) = nI (g k)) → Q none (MH I' m (itP tx ln i 4 0 (usV i) p).1 (-1) e, J, R, K, n)) (hN : ∀ I' p', (itP tx ln i 4 0 (usV i) p).2 = none → mFi b r (lenA i) I I' → Q none (MH I' m p' (nI (itP tx ln i 4 0 (usV i) p).1) e, J, R, K, n)) : zC G (d + 6) mX12_readItems 0 0 [.ref m, .int (kcV i), .ref b, .int (nI r), .ref (G.2.2.2.1 i)] (MH I m p (-1) e, J, R, K, n) Q := by
  have l3 := lenV3 i hi
  have l1 := lenA_le i (by omega)
  have v1 := V.1
  have loop : ∀ (j mt s p : Nat) (f : Nat → Nat) (I2 : Nat → Nat → Int32), s + j = 4 → pop10 mt = s → mt < 2 ^ lenA i → p ≤ ln → mFi b r (lenA i) I I2 → (∀ k, k < lenA i → I2 b (r + k) = nI (f k)) → (∀ I' g, (itP tx ln i j mt f p).2 = some g → mFi b r (lenA i) I I' → (∀ k, k < lenA i → I' b (r + k) = nI (g k)) → Q none (MH I' m (itP tx ln i j mt f p).1 (-1) e, J, R, K, n)) → (∀ I' p', (itP tx ln i j mt f p).2 = none → mFi b r (lenA i) I I' → Q none (MH I' m p' (nI (itP tx ln i j mt f p).1) e, J, R, K, n)) → zV G (d + 6) mX12_readItems 0 0 45 [(0, .ref m), (1, .int (kcV i)), (2, .ref b), (3, .int (nI r)), (4, .ref (G.2.2.2.1 i)), (5, .int (nI mt)), (6, .int (idxA i (lk tx ln p)))] [] (MH I2 m (sk tx ln p) (-1) e, J, R, K, n) Q := by
    intro j
    induction j with
    | zero =>
      intro mt s p f I2 hs hm hlt
      have := pop3l (lenA i) (by omega) mt hlt
      omega
    | succ j ih =>
      intro mt s p f I2 hs hm hlt hp F2 hf hY hN
      have V2 := F2.tm V h1 h2
      have pl := pop3l (lenA i) (by omega) mt hlt
      have a1 := sk_le (tx := tx) hp
      have m8 : mt < 8 := Nat.lt_of_lt_of_le hlt (Nat.pow_le_pow_right (n := 2) (j := 3) (by decide) l3)
      rw [itP] at hY hN
      refine wX12_readItems_45 m t c b l hb i (by omega) S _ _ _ _ ?_
      rw [MH_at.2.1]
      refine ⟨fun hx => ?_, fun hx => ⟨fun _ => ?_, fun h => absurd rfl h⟩⟩
      · rw [if_pos hx] at hY
        exact hY I2 f rfl F2 hf
      rw [if_neg hx] at hY hN
      obtain ⟨k, hk, ek⟩ := idx_k hx
      have ll : lk tx ln p ≠ -1 := fun h => hx (by rw [h]; exact idx_m1 i (by omega))
      have l2 := lk_lt ll
      obtain ⟨z1, z2, z3, z4, z5⟩ := zTb i hi k (by omega) hk
      rw [ek, tk_c (by omega)] at hY hN
      rw [ek]
      have n1 := nmA_le (tx := tx) (D := 2) (ln := ln) (p := sk tx ln p + 1) (by omega)
      have inr : vp_in (nI r + nI k) l := by rw [nI_add]; exact (tk_in (by omega) (by omega)).mpr (by omega)
      refine c_has (s := mt) (k := k) (by omega) (by omega) ?_
      refine ⟨_, _, rfl, rfl, ?_⟩
      by_cases hb' : mt.testBit k = true
      · rw [if_pos hb'] at hN ⊢
        refine ⟨fun h => absurd h (by decide), fun _ => ?_⟩
        refine c_fails S ?_
        refine ⟨_, _, rfl, rfl, ?_⟩
        exact hN I2 _ rfl F2
      rw [if_neg hb'] at hY hN ⊢
      refine ⟨fun _ => ?_, fun h => absurd rfl h⟩
      intro I3 q3
      rw [MH_at.1, nI_1, MH_10] at q3
      subst q3
      refine c_leastOf hi (show k < 3 by omega) ?_
      refine ⟨_, _, rfl, rfl, ?_⟩
      refine c_mostOf hi (show k < 3 by omega) ?_
      refine ⟨_, _, rfl, rfl, ?_⟩
      have stop : ∀ (q p' : Nat) (x : Int32), q ≤ ln → (∀ I' p', mFi b r (lenA i) I I' → Q none (MH I' m p' (nI q) e, J, R, K, n)) → ∃ (x20 : Int32) (I21 : Nat → Nat → Int32), some (Value.int x) = some (.int x20) ∧ (MH I2 m p' (nI q) e, J, R, K, n) = (I21, J, R, K, n) ∧ (vp_in (nI r + nI k) l ∧ ∀ I22 : Nat → Nat → Int32, I22 = zU I21 b (nI r + nI k : Int32).toNatClampNeg x20 → (((I22 m 11 : Int32) = (-1) → zC G (d + 5) mX12_look 0 0 [.ref m] (I22, J, R, K, n) (fun r_1 h => ∃ (x24 : Int32) (I25 : Nat → Nat → Int32), r_1 = some (.int x24) ∧ h = (I25, J, R, K, n) ∧ zC G (d + 5) mX12_spotOf 0 0 [.ref (G.2.2.2.1 i), .int x24] (I25, J, R, K, n) (fun r_2 h => ∃ (x26 : Int32) (I27 : Nat → Nat → Int32), r_2 = some (.int x26) ∧ h = (I27, J, R, K, n) ∧ zV G (d + 5 + 1) mX12_readItems 0 0 45 [(0, .ref m), (1, .int (kcV i)), (2, .ref b), (3, .int (nI r)), (4, .ref (G.2.2.2.1 i)), (5, .int (nI mt ||| ((1 : Int32) <<< (nI k &&& 31)))), (6, .int x26)] [] (I27, J, R, K, n) Q))) ∧ (¬ ((I22 m 11 : Int32) = (-1)) → zV G (d + 5 + 1) mX12_readItems 0 0 45 [(0, .ref m), (1, .int (kcV i)), (2, .ref b), (3, .int (nI r)), (4, .ref (G.2.2.2.1 i)), (5, .int (nI mt ||| ((1 : Int32) <<< (nI k &&& 31)))), (6, .int (nI k))] [] (I22, J, R, K, n) Q))) := by
        intro q p' x hq hqq
        refine ⟨_, _, rfl, rfl, inr, fun I5 q5 => ?_⟩
        rw [nI_add, tk_c (by omega), MH_z h1] at q5
        subst q5
        rw [MH_at.2.1]
        refine ⟨fun h => absurd ((tk_m1 (by omega)).mp h) id, fun _ => ?_⟩
        refine wX12_readItems_45 m t c b l hb i (by omega) S _ _ _ _ ?_
        rw [MH_at.2.1]
        refine ⟨fun h => absurd ((tk_m1 (by omega)).mp h) id, fun _ => ⟨fun h => absurd ((tk_m1 (by omega)).mp h) id, fun _ => ?_⟩⟩
        exact hqq _ _ (fun a k' g => by rw [zU_ne (by omega)]; exact F2 a k' g)
      refine c_mnumber S V2 (show sk tx ln p + 1 ≤ ln by omega) (by omega) (by omega) (fun y hy hby => ?_) (fun y x p' hy hby => ?_) (fun hy x p' => ?_)
      · rw [hy] at hY hN
        simp only at hY hN
        rw [if_neg hby] at hY hN
        refine ⟨_, _, rfl, rfl, inr, fun I5 q5 => ?_⟩
        rw [nI_add, tk_c (by omega), MH_z h1] at q5
        subst q5
        rw [MH_at.2.1]
        refine ⟨fun _ => ?_, fun h => absurd rfl h⟩
        have F5 : mFi b r (lenA i) I (zU I2 b (r + k) (nI y)) := fun a k' g => by rw [zU_ne (by omega)]; exact F2 a k' g
        refine c_look S (F5.tm V h1 h2) n1 ?_
        refine ⟨_, _, rfl, rfl, ?_⟩
        refine c_spotOf (by omega) ?_
        refine ⟨_, _, rfl, rfl, ?_⟩
        rw [tk_shl k (by omega), tk_or]
        refine ih (mt ||| 2 ^ k) (s + 1) _ (up f k y) _ (by omega) ?_ (or3 (lenA i) (by omega) mt hlt k hk) n1 F5 (fun k' hk' => ?_) hY hN
        · rw [pop3 mt m8 k (by omega) (by simpa using hb'), hm]
        · by_cases ek' : k' = k
          · subst ek'; rw [zU_self, up_at]
          · rw [zU_ne (by omega), up_ne ek']
            exact hf k' hk'
      · rw [hy] at hN
        simp only at hN
        rw [if_pos hby] at hN
        exact stop _ p' x (by omega) (fun I' p'' F' => hN I' p'' rfl F')
      · rw [hy] at hN
        exact stop _ p' x n1 (fun I' p'' F' => hN I' p'' rfl F')
  have loop3 : ∀ (j k : Nat) (I2 : Nat → Nat → Int32), k + j = lenA i → mFi b r (lenA i) I I2 → (∀ k', k' < k → I2 b (r + k') = nI (usV i k')) → zV G (d + 6) mX12_readItems 0 0 3 [(0, .ref m), (1, .int (kcV i)), (2, .ref b), (3, .int (nI r)), (4, .ref (G.2.2.2.1 i)), (5, .int (nI k))] [] (MH I2 m p (-1) e, J, R, K, n) Q := by
    intro j
    induction j with
    | zero =>
      intro k I2 hk F2 hu
      obtain rfl : k = lenA i := by omega
      refine wX12_readItems_3 m t c b l hb i (by omega) S _ _ _ ?_
      refine c_slen (by omega) ?_
      refine ⟨_, rfl, rfl, ?_⟩
      rw [tk_le (by omega) (by omega)]
      refine ⟨fun _ => ?_, fun h => absurd (Nat.le_refl _) h⟩
      refine c_look S (F2.tm V h1 h2) hp ?_
      refine ⟨_, _, rfl, rfl, ?_⟩
      refine c_spotOf (by omega) ?_
      refine ⟨_, _, rfl, rfl, ?_⟩
      exact loop 4 0 0 p (usV i) I2 (by omega) (by decide) (Nat.two_pow_pos _) hp F2 hu hY hN
    | succ j ih =>
      intro k I2 hk F2 hu
      refine wX12_readItems_3 m t c b l hb i (by omega) S _ _ _ ?_
      refine c_slen (by omega) ?_
      refine ⟨_, rfl, rfl, ?_⟩
      rw [tk_le (by omega) (by omega)]
      refine ⟨fun h => absurd h (by omega), fun _ => ?_⟩
      refine c_usual hi (show k < 3 by omega) ?_
      refine ⟨_, _, rfl, rfl, ?_⟩
      refine ⟨by rw [nI_add]; exact (tk_in (by omega) (by omega)).mpr (by omega), fun I3 q3 => ?_⟩
      rw [nI_add, tk_c (by omega), MH_z h1] at q3
      subst q3
      rw [nI_1]
      refine ih (k + 1) _ (by omega) (fun a k' g => by rw [zU_ne (by omega)]; exact F2 a k' g) (fun k' hk' => ?_)
      by_cases ek' : k' = k
      · subst ek'; rw [zU_self]
      · rw [zU_ne (by omega)]
        exact hu k' (by omega)
  refine zC.of (by decide) (Nat.le_of_ble_eq_true rfl) ?_
  refine wX12_readItems_0 m t c b l hb i (by omega) S _ _ ?_
  exact loop3 (lenA i) 0 I (by omega) (fun _ _ _ => rfl) (fun k hk => absurd hk (by omega))
end
