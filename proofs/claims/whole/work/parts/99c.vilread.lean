/-! VILLAGES: the class's reader -/
/-- nothing changed but where reading stands and a village's items -/
def vFi (t v : Nat) (I I' : Nat → Nat → Int32) : Prop := ∀ b k, ¬ (b = t ∧ k = 2) → b ≠ v + 6 → I' b k = I b k
theorem zTb : ∀ i : Nat, i < 3 → ∀ k : Nat, k < 3 → k < lenA i → (2 * k + 1 < (zTbl i).length ∧ (zTbl i).getD (2 * k) 0 = nI (loV i k) ∧ (zTbl i).getD (2 * k + 1) 0 = nI (hiV i k) ∧ loV i k ≤ 1 ∧ hiV i k ≤ 99) := by decide +kernel
theorem zTl : ∀ i : Nat, i < 3 → (zTbl i).length ≤ 6 := by decide +kernel
section
variable {G : zG} {d : Nat} {I : Nat → Nat → Int32} {J : Nat → Nat → Int64} {R : Nat → Nat → Option Nat} {K : Nat → Nat × Nat} {n : Nat} {t v ln p : Nat} {tx : Nat → Nat} {Q : Option Value → zH → Prop}
theorem c_numberE (S : hTape G R K n t) (V : TP I t ln tx) (hp : p ≤ ln) (e : I t 2 = nI p) {D : Nat} (hD : D ≤ 4) (h1 : ∀ v, (nmA tx ln D p).2 = some v → Q (some (.int (nI v))) (zU I t 2 (nI (nmA tx ln D p).1), J, R, K, n)) (h0 : (nmA tx ln D p).2 = none → Q (some (.int (-1))) (zU I t 2 (nI (nmA tx ln D p).1), J, R, K, n)) : zC G (d + 2) mX9_number 0 0 [.ref t, .int (nI D)] (I, J, R, K, n) Q := by
  have := c_number (d := d) (J := J) S V hp hD h1 h0
  rw [zU_id' e] at this
  exact this
theorem vFi.tp {I' : Nat → Nat → Int32} (F : vFi t v I I') (V : TP I t ln tx) (hv : t + 1 < v) : TP I' t ln tx := V.same (F t 1 (by omega) (by omega)) (funext fun k => F (t + 1) k (by omega) (by omega))
theorem c_itemsL {i : Nat} (hi : i < 3) (S : hVil G R K n v) (S1 : hTape G R K n t) (hv : t + 1 < v) (V : TP I t ln tx) : ∀ (j mt s p : Nat) (f : Nat → Nat) (I2 : Nat → Nat → Int32), s + j = 4 → pop10 mt = s → mt < 2 ^ lenA i → p ≤ ln → vFi t v I I2 → I2 t 2 = nI p → (∀ k, k < lenA i → I2 (v + 6) k = nI (f k)) → (∀ I' g, (itP tx ln i j mt f p).2 = some g → vFi t v I I' → I' t 2 = nI (itP tx ln i j mt f p).1 → (∀ k, k < lenA i → I' (v + 6) k = nI (g k)) → Q (some (.int 1)) (I', J, R, K, n)) → (∀ I', (itP tx ln i j mt f p).2 = none → vFi t v I I' → I' t 2 = nI (itP tx ln i j mt f p).1 → Q (some (.int 0)) (I', J, R, K, n)) → zV G (d + 5) mX10_readItems 0 0 16 [(0, .ref v), (1, .ref t), (2, .ref (G.2.2.2.1 i)), (3, .ref (G.2.2.2.2.2.1 i)), (4, .int (nI mt)), (5, .int (nI s))] [] (I2, J, R, K, n) Q := by
  have l3 := lenV3 i hi
  have l1 := lenA_le i (by omega)
  intro j
  induction j with
  | zero =>
    intro mt s p f I2 hs hm hlt
    have := pop3l (lenA i) (by omega) mt hlt
    omega
  | succ j ih =>
    intro mt s p f I2 hs hm hlt hp F2 e2 hf h1 h0
    have V2 := F2.tp V hv
    have pl := pop3l (lenA i) (by omega) mt hlt
    have a1 := sk_le (tx := tx) hp
    have m8 : mt < 8 := Nat.lt_of_lt_of_le hlt (Nat.pow_le_pow_right (n := 2) (j := 3) (by decide) l3)
    refine wX10_readItems_16 v t i (by omega) i hi S S1 _ _ ?_
    refine c_slen (by omega) ?_
    refine ⟨_, rfl, rfl, ?_⟩
    rw [tk_lt (by omega) (by omega)]
    refine ⟨fun h => absurd h (by omega), fun _ => ?_⟩
    refine c_nextE S1 V2 hp e2 ?_
    refine ⟨_, _, rfl, rfl, ?_⟩
    have F3 : vFi t v I (zU I2 t 2 (nI (sk tx ln p))) := fun b k g1 g2 => by rw [zU_ne g1]; exact F2 b k g1 g2
    have f3 : ∀ k, k < lenA i → zU I2 t 2 (nI (sk tx ln p)) (v + 6) k = nI (f k) := fun k hk => by rw [zU_off (by omega)]; exact hf k hk
    rw [itP] at h1 h0
    refine ⟨fun hl => ⟨fun _ => ?_, fun h => absurd rfl h⟩, fun hl => ?_⟩
    · rw [hl, if_pos (idx_m1 i (by omega))] at h1
      exact h1 _ f rfl F3 (zU_self ..) f3
    obtain ⟨l2, l4⟩ := lk_b (fun k hk => (V.2.2 k hk).2) hl
    have tb := (V.2.2 _ l2).2
    have call := c_indexOf (G := G) (d := d) (I := zU I2 t 2 (nI (sk tx ln p))) (J := J) (R := R) (K := K) (n := n) (i := i) (by omega) (b := tx (sk tx ln p)) (by omega) (Q := fun r h => ∃ (x7 : Int32), r = some (.int x7) ∧ h = (zU I2 t 2 (nI (sk tx ln p)), J, R, K, n) ∧ x7 = idxA i (lk tx ln p)) ⟨_, rfl, rfl, by rw [l4]⟩
    rw [← l4] at call
    refine zC.mono call ?_
    rintro _ _ ⟨x7, rfl, rfl, e7⟩
    refine ⟨_, rfl, rfl, fun hx => ?_, fun hx => ?_⟩
    · rw [← e7, if_pos hx] at h1
      exact h1 _ f rfl F3 (zU_self ..) f3
    · rw [← e7, if_neg hx] at h1 h0
      obtain ⟨k, hk, ek⟩ := idx_k (i := i) (c := lk tx ln p) (by rw [← e7]; exact hx)
      rw [← e7] at ek
      subst ek
      rw [tk_c (by omega)] at h1 h0
      obtain ⟨z1, z2, z3, z4, z5⟩ := zTb i hi k (by omega) hk
      have zl := zTl i hi
      rw [tk_bit (by omega) (by omega)]
      refine ⟨fun hb => ?_, fun hb => ?_⟩
      · rw [if_pos hb] at h0
        exact h0 _ rfl F3 (zU_self ..)
      rw [if_neg hb] at h1 h0
      intro I4 q4
      rw [zU_self, nI_1, zU_two] at q4
      have F4 : vFi t v I I4 := fun b k g1 g2 => by rw [q4, zU_ne g1]; exact F2 b k g1 g2
      have e4 : I4 t 2 = nI (sk tx ln p + 1) := by rw [q4, zU_self]
      have f4 : ∀ k, k < lenA i → I4 (v + 6) k = nI (f k) := fun k hk => by rw [q4, zU_off (by omega)]; exact hf k hk
      have n1 := nmA_le (tx := tx) (D := 2) (ln := ln) (p := sk tx ln p + 1) (by omega)
      refine c_numberE S1 (F4.tp V hv) (by omega) e4 (D := 2) (by omega) (fun y hy => ?_) (fun hy => ?_)
      · have n2 := nmA_ok (tx := tx) (ln := ln) (D := 2) (p := sk tx ln p + 1) (q := (nmA tx ln 2 (sk tx ln p + 1)).1) (v := y) (by omega) (by rw [← hy]) (by omega)
        have y2 : y < 100 := n2.2.2
        rw [hy] at h1 h0
        simp only at h1 h0
        have F5 : vFi t v I (zU I4 t 2 (nI (nmA tx ln 2 (sk tx ln p + 1)).1)) := fun b k g1 g2 => by rw [zU_ne g1]; exact F4 b k g1 g2
        have ev : vp_in (2 * nI k) (zTbl i).length := by rw [show (2 : Int32) = nI 2 from rfl, pk_mul]; exact (tk_in (by omega) (by omega)).mpr (by omega)
        have ev1 : vp_in (2 * nI k + 1) (zTbl i).length := by rw [show (2 : Int32) = nI 2 from rfl, pk_mul, nI_1]; exact (tk_in (by omega) (by omega)).mpr (by omega)
        have bad : (y < loV i k ∨ hiV i k < y) → ∀ I6 : Nat → Nat → Int32, I6 = zU (zU I4 t 2 (nI (nmA tx ln 2 (sk tx ln p + 1)).1)) t 2 (zU I4 t 2 (nI (nmA tx ln 2 (sk tx ln p + 1)).1) t 2 - 1) → Q (some (.int 0)) (I6, J, R, K, n) := by
          intro hbad I6 q6
          rw [if_pos hbad] at h0
          refine h0 I6 rfl (fun b k g1 g2 => by rw [q6, zU_ne g1]; exact F5 b k g1 g2) ?_
          rw [q6, zU_self, zU_self, show (1 : Int32) = nI 1 from rfl, tk_sub (by omega)]
        refine ⟨_, _, rfl, rfl, fun h => absurd ((tk_m1 (by omega)).mp h) id, fun _ => ⟨ev, ?_⟩⟩
        rw [show (2 * nI k : Int32) = nI (2 * k) by rw [show (2 : Int32) = nI 2 from rfl, pk_mul], nI_1, tk_c (by omega), tk_c (by omega), tk_c (by omega), z2, z3, tk_lt (by omega) (by omega), tk_le (by omega) (by omega)]
        refine ⟨fun h => bad (Or.inl h), fun h => ⟨(tk_in (by omega) (by omega)).mpr (by omega), fun h2 => ⟨(tk_in (by omega) (by omega)).mpr (by omega), fun I6 q6 => ?_⟩, fun h2 => bad (Or.inr (by omega))⟩⟩
        rw [if_neg (by omega)] at h1 h0
        rw [tk_shl k (by omega), tk_or, nI_1]
        refine ih (mt ||| 2 ^ k) (s + 1) _ (up f k y) I6 (by omega) ?_ (or3 (lenA i) (by omega) mt hlt k hk) n1 (fun b k g1 g2 => by rw [q6, zU_off g2]; exact F5 b k g1 g2) (by rw [q6, zU_off (by omega), zU_self]) (fun k' hk' => ?_) h1 h0
        · rw [pop3 mt m8 k (by omega) (by simpa using hb), hm]
        · rw [q6]
          by_cases e : k' = k
          · subst e; rw [zU_self, up_at]
          · rw [zU_ne (by omega), up_ne e, zU_off (by omega)]
            exact f4 k' hk'
      · rw [hy] at h0
        exact ⟨_, _, rfl, rfl, fun _ => h0 _ rfl (fun b k g1 g2 => by rw [zU_ne g1]; exact F4 b k g1 g2) (zU_self ..), fun h => absurd rfl h⟩
theorem c_items {i : Nat} (hi : i < 3) (S : hVil G R K n v) (S1 : hTape G R K n t) (hv : t + 1 < v) (V : TP I t ln tx) (hp : p < ln) (e : I t 2 = nI p) {f : Nat → Nat} (hf : ∀ k, k < lenA i → I (v + 6) k = nI (f k)) (h1 : ∀ I' g, (itP tx ln i 4 0 f (p + 1)).2 = some g → vFi t v I I' → I' t 2 = nI (itP tx ln i 4 0 f (p + 1)).1 → (∀ k, k < lenA i → I' (v + 6) k = nI (g k)) → Q (some (.int 1)) (I', J, R, K, n)) (h0 : ∀ I', (itP tx ln i 4 0 f (p + 1)).2 = none → vFi t v I I' → I' t 2 = nI (itP tx ln i 4 0 f (p + 1)).1 → Q (some (.int 0)) (I', J, R, K, n)) : zC G (d + 5) mX10_readItems 0 0 [.ref v, .ref t, .ref (G.2.2.2.1 i), .ref (G.2.2.2.2.2.1 i)] (I, J, R, K, n) Q := by
  refine zC.of (by decide) (Nat.le_of_ble_eq_true rfl) ?_
  refine wX10_readItems_0 v t i (by omega) i hi S S1 ?_
  intro I1 q1
  rw [e, nI_1] at q1
  exact c_itemsL hi S S1 hv V 4 0 0 (p + 1) f I1 (by omega) (by decide) (Nat.two_pow_pos _) (by omega) (fun b k g1 g2 => by rw [q1, zU_ne g1]) (by rw [q1, zU_self]) (fun k hk => by rw [q1, zU_off (by omega)]; exact hf k hk) h1 h0
end
