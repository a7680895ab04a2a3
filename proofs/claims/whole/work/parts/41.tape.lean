/-! A TEXT (bytes tx, so many ln), and how it is read -/
def skA (tx : Nat → Nat) (ln : Nat) : Nat → Nat → Nat
  | 0, p => p
  | f + 1, p => if p < ln then (if tx p = 32 then skA tx ln f (p + 1) else p) else p
/-- behind blanks -/
def sk (tx : Nat → Nat) (ln p : Nat) : Nat := skA tx ln (ln - p) p
/-- the sign behind blanks; -1: the end -/
def lk (tx : Nat → Nat) (ln p : Nat) : Int32 := if sk tx ln p < ln then nI (tx (sk tx ln p)) else -1
def dg (tx : Nat → Nat) (ln p : Nat) : Prop := p < ln ∧ 48 ≤ tx p ∧ tx p ≤ 57
def dgB (tx : Nat → Nat) (ln p : Nat) : Bool := decide (p < ln) && decide (48 ≤ tx p) && decide (tx p ≤ 57)
theorem dgB_iff {tx : Nat → Nat} {ln p : Nat} : dgB tx ln p = true ↔ dg tx ln p := by
  unfold dgB dg
  simp only [Bool.and_eq_true, decide_eq_true_eq]
  exact ⟨fun h => ⟨h.1.1, h.1.2, h.2⟩, fun h => ⟨⟨h.1, h.2.1⟩, h.2.2⟩⟩
theorem skA_ge (tx : Nat → Nat) (ln : Nat) : ∀ f p, p ≤ skA tx ln f p
  | 0, p => Nat.le_refl _
  | f + 1, p => by
    rw [skA]
    split
    · split
      · exact Nat.le_trans (by omega) (skA_ge tx ln f (p + 1))
      · omega
    · omega
theorem skA_le (tx : Nat → Nat) (ln : Nat) : ∀ f p, p ≤ ln → skA tx ln f p ≤ ln
  | 0, p, h => h
  | f + 1, p, h => by
    rw [skA]
    split
    · split
      · exact skA_le tx ln f (p + 1) (by omega)
      · omega
    · omega
theorem skA_ne (tx : Nat → Nat) (ln : Nat) : ∀ f p, ln ≤ p + f → skA tx ln f p < ln → tx (skA tx ln f p) ≠ 32
  | 0, p, h, h2 => by rw [skA] at h2; omega
  | f + 1, p, h, h2 => by
    rw [skA] at h2 ⊢
    split
    · rename_i h3
      rw [if_pos h3] at h2
      split
      · rename_i h4
        rw [if_pos h4] at h2
        exact skA_ne tx ln f (p + 1) (by omega) h2
      · assumption
    · rename_i h3
      rw [if_neg h3] at h2
      omega
section
variable {tx : Nat → Nat} {ln p : Nat}
theorem sk_ge : p ≤ sk tx ln p := skA_ge ..
theorem sk_le (h : p ≤ ln) : sk tx ln p ≤ ln := skA_le _ _ _ _ h
theorem sk_ne (h : sk tx ln p < ln) : tx (sk tx ln p) ≠ 32 := skA_ne _ _ _ _ (by omega) h
theorem sk_step (h : p < ln) (h2 : tx p = 32) : sk tx ln p = sk tx ln (p + 1) := by
  unfold sk
  rw [show ln - p = (ln - (p + 1)) + 1 by omega, skA, if_pos h, if_pos h2]
theorem sk_stop (h : ¬ (p < ln ∧ tx p = 32)) : sk tx ln p = p := by
  unfold sk
  cases e : ln - p with
  | zero => rfl
  | succ f =>
    rw [skA]
    split
    · rw [if_neg (fun h2 => h ⟨by assumption, h2⟩)]
    · rfl
theorem sk_sk : sk tx ln (sk tx ln p) = sk tx ln p := sk_stop (fun h => sk_ne h.1 h.2)
theorem lk_sk : lk tx ln (sk tx ln p) = lk tx ln p := by unfold lk; rw [sk_sk]
theorem lk_b (hb : ∀ k, k < ln → 1 ≤ tx k ∧ tx k < 256) (h : lk tx ln p ≠ -1) : sk tx ln p < ln ∧ lk tx ln p = nI (tx (sk tx ln p)) := by
  unfold lk at h ⊢
  split
  · rename_i h1; exact ⟨h1, rfl⟩
  · rename_i h1; rw [if_neg h1] at h; exact absurd rfl h
end
/-- a number of so many digits at most -/
def numF (tx : Nat → Nat) (ln : Nat) : Nat → Nat → Nat → Nat × Nat
  | 0, p, v => (p, v)
  | j + 1, p, v => if dgB tx ln p then numF tx ln j (p + 1) (10 * v + (tx p - 48)) else (p, v)
theorem numF_ge (tx : Nat → Nat) (ln : Nat) : ∀ j p v, p ≤ (numF tx ln j p v).1
  | 0, p, v => Nat.le_refl _
  | j + 1, p, v => by
    rw [numF]
    split
    · exact Nat.le_trans (by omega) (numF_ge tx ln j (p + 1) _)
    · exact Nat.le_refl _
theorem numF_le (tx : Nat → Nat) (ln : Nat) : ∀ j p v, p ≤ ln → (numF tx ln j p v).1 ≤ ln
  | 0, p, v, h => h
  | j + 1, p, v, h => by
    rw [numF]
    split
    · rename_i h1
      exact numF_le tx ln j (p + 1) _ (by have := (dgB_iff.mp h1).1; omega)
    · exact h
theorem numF_sz (tx : Nat → Nat) (ln : Nat) : ∀ j p v b, v < b → (numF tx ln j p v).2 < b * 10 ^ j
  | 0, p, v, b, h => by rw [numF]; simpa using h
  | j + 1, p, v, b, h => by
    rw [numF]
    split
    · rename_i h1
      have h2 := (dgB_iff.mp h1).2.2
      have h3 := numF_sz tx ln j (p + 1) (10 * v + (tx p - 48)) (10 * b) (by omega)
      rw [Nat.pow_succ, Nat.mul_comm (10 ^ j), ← Nat.mul_assoc, Nat.mul_comm b]
      exact h3
    · have h3 : 1 ≤ 10 ^ (j + 1) := Nat.one_le_iff_ne_zero.mpr (by simp)
      exact Nat.lt_of_lt_of_le h (Nat.le_mul_of_pos_right b h3)
theorem zU_two {α : Type} (f : Nat → Nat → α) (a k : Nat) (u v : α) : zU (zU f a k u) a k v = zU f a k v := by
  funext b j
  simp only [zU]
  by_cases h : b = a
  · by_cases h1 : j = k <;> simp [h, h1]
  · simp [h]
theorem zU_id {α : Type} (f : Nat → Nat → α) (a k : Nat) : zU f a k (f a k) = f := by
  funext b j
  simp only [zU]
  by_cases h : b = a
  · by_cases h1 : j = k <;> simp [h, h1]
  · simp [h]
theorem zU_id' {α : Type} {f : Nat → Nat → α} {a k : Nat} {x : α} (h : f a k = x) : zU f a k x = f := by rw [← h]; exact zU_id ..
/-- the class's tape -/
def TP (I : Nat → Nat → Int32) (t ln : Nat) (tx : Nat → Nat) : Prop := ln ≤ 240 ∧ I t 1 = nI ln ∧ ∀ k, k < ln → I (t + 1) k = nI (tx k) ∧ 1 ≤ tx k ∧ tx k < 256
section
variable {G : zG} {d : Nat} {I : Nat → Nat → Int32} {J : Nat → Nat → Int64} {R : Nat → Nat → Option Nat} {K : Nat → Nat × Nat} {n : Nat} {t ln p : Nat} {tx : Nat → Nat} {Q : Option Value → zH → Prop}
theorem TP.same {I' : Nat → Nat → Int32} (V : TP I t ln tx) (h1 : I' t 1 = I t 1) (h2 : I' (t + 1) = I (t + 1)) : TP I' t ln tx := by
  unfold TP
  rw [h1, h2]
  exact V
theorem TP.e (V : TP I t ln tx) (x : Int32) : zU I t 2 x t 1 = nI ln ∧ zU I t 2 x t 2 = x ∧ zU I t 2 x (t + 1) = I (t + 1) := ⟨by rw [zU_ne (by omega)]; exact V.2.1, zU_self .., zU_off (by omega)⟩
theorem l_next (S : hTape G R K n t) (V : TP I t ln tx) : ∀ (f p : Nat), ln ≤ p + f → p ≤ ln → Q (some (.int (lk tx ln p))) (zU I t 2 (nI (sk tx ln p)), J, R, K, n) → zV G (d + 1) mX9_next 0 0 0 [(0, .ref t)] [] (zU I t 2 (nI p), J, R, K, n) Q := by
  have hl := V.1
  intro f
  induction f with
  | zero =>
    intro p h1 h2 hQ
    obtain rfl : p = ln := by omega
    obtain ⟨e1, e2, e3⟩ := V.e (nI p)
    have hs : sk tx p p = p := sk_stop (by omega)
    unfold lk at hQ
    rw [hs, if_neg (by omega)] at hQ
    refine wX9_next_0 t S ⟨fun _ => ?_, fun h => ?_⟩
    · rw [e1, e2, if_pos ((tk_le (by omega) (by omega)).mpr (Nat.le_refl _))]
      exact ⟨fun h => absurd ((tk_le (by omega) (by omega)).mpr (Nat.le_refl _)) h, hQ⟩
    · rw [e1, e2] at h
      exact absurd ((tk_le (by omega) (by omega)).mpr (Nat.le_refl _)) h
  | succ f ih =>
    intro p h1 h2 hQ
    obtain ⟨e1, e2, e3⟩ := V.e (nI p)
    by_cases hp : p < ln
    · obtain ⟨b1, b2, b3⟩ := V.2.2 p hp
      refine wX9_next_0 t S ⟨fun h => ?_, fun _ => ?_⟩
      · simp (disch := omega) only [e1, e2, tk_0, tk_1, tk_2, tk_3, tk_4, tk_5, tk_6, tk_7, tk_8, tk_9, tk_10, tk_11, tk_12, tk_13, tk_14, tk_15, tk_16, tk_20, tk_24, tk_25, tk_26, tk_27, tk_28, tk_29, tk_30, tk_31, tk_32, tk_40, tk_41, tk_45, tk_46, tk_47, tk_48, tk_49, tk_50, tk_51, tk_57, tk_60, tk_99, tk_100, tk_120, tk_128, tk_231, tk_240, tk_255, tk_500, tk_999, tk_9999, tk_10000, pk_mul, nI_add, tk_c, tk_in, tk_lt, tk_le, tk_eq, tk_and31, tk_shl1, tk_shr1, tk_and1, tk_or, tk_ite, tk_tb, tk_mn, tk_mx] at h
        omega
      · simp (disch := omega) only [e1, e2, e3, b1, tk_0, tk_1, tk_2, tk_3, tk_4, tk_5, tk_6, tk_7, tk_8, tk_9, tk_10, tk_11, tk_12, tk_13, tk_14, tk_15, tk_16, tk_20, tk_24, tk_25, tk_26, tk_27, tk_28, tk_29, tk_30, tk_31, tk_32, tk_40, tk_41, tk_45, tk_46, tk_47, tk_48, tk_49, tk_50, tk_51, tk_57, tk_60, tk_99, tk_100, tk_120, tk_128, tk_231, tk_240, tk_255, tk_500, tk_999, tk_9999, tk_10000, pk_mul, nI_add, tk_c, tk_in, tk_lt, tk_le, tk_eq, tk_and31, tk_shl1, tk_shr1, tk_and1, tk_or, tk_ite, tk_tb, tk_mn, tk_mx]
        refine ⟨by omega, fun h => ?_, fun h => ⟨fun _ => by omega, ?_⟩⟩
        · rintro _ rfl
          rw [zU_two]
          rw [lk, sk_step hp h] at hQ
          exact ih (p + 1) (by omega) (by omega) hQ
        · have hs : sk tx ln p = p := sk_stop (fun h3 => h h3.2)
          unfold lk at hQ
          rw [hs, if_pos hp] at hQ
          rw [if_neg (by omega)]
          exact hQ
    · obtain rfl : p = ln := by omega
      have hs : sk tx p p = p := sk_stop (by omega)
      unfold lk at hQ
      rw [hs, if_neg (by omega)] at hQ
      refine wX9_next_0 t S ⟨fun _ => ?_, fun h => ?_⟩
      · rw [e1, e2, if_pos ((tk_le (by omega) (by omega)).mpr (Nat.le_refl _))]
        exact ⟨fun h => absurd ((tk_le (by omega) (by omega)).mpr (Nat.le_refl _)) h, hQ⟩
      · rw [e1, e2] at h
        exact absurd ((tk_le (by omega) (by omega)).mpr (Nat.le_refl _)) h
theorem c_next (S : hTape G R K n t) (V : TP I t ln tx) (hp : p ≤ ln) (hQ : Q (some (.int (lk tx ln p))) (zU I t 2 (nI (sk tx ln p)), J, R, K, n)) : zC G (d + 1) mX9_next 0 0 [.ref t] (zU I t 2 (nI p), J, R, K, n) Q := by
  refine zC.of (by decide) (Nat.le_of_ble_eq_true rfl) ?_
  exact l_next S V (ln - p) p (by omega) hp hQ
theorem c_accept (S : hTape G R K n t) (V : TP I t ln tx) (hp : p ≤ ln) {s : Int32} (h1 : lk tx ln p = s → Q (some (.int 1)) (zU I t 2 (nI (sk tx ln p + 1)), J, R, K, n)) (h0 : lk tx ln p ≠ s → Q (some (.int 0)) (zU I t 2 (nI (sk tx ln p)), J, R, K, n)) : zC G (d + 2) mX9_accept 0 0 [.ref t, .int s] (zU I t 2 (nI p), J, R, K, n) Q := by
  refine zC.of (by decide) (Nat.le_of_ble_eq_true rfl) ?_
  refine wX9_accept_0 t S _ ?_
  refine c_next S V hp ?_
  refine ⟨_, _, rfl, rfl, ?_⟩
  refine ⟨fun h => ?_, h0⟩
  rintro _ rfl
  rw [zU_two, zU_self, nI_1]
  exact h1 h
theorem c_atDigit (S : hTape G R K n t) (V : TP I t ln tx) (hp : p ≤ ln) (hQ : Q (some (.int (if dgB tx ln p then 1 else 0))) (zU I t 2 (nI p), J, R, K, n)) : zC G (d + 1) mX9_atDigit 0 0 [.ref t] (zU I t 2 (nI p), J, R, K, n) Q := by
  have hl := V.1
  obtain ⟨e1, e2, e3⟩ := V.e (nI p)
  refine zC.of (by decide) (Nat.le_of_ble_eq_true rfl) ?_
  refine wX9_atDigit_0 t S ?_
  by_cases h : p < ln
  · obtain ⟨b1, b2, b3⟩ := V.2.2 p h
    simp (disch := omega) only [e1, e2, e3, b1, tk_0, tk_1, tk_2, tk_3, tk_4, tk_5, tk_6, tk_7, tk_8, tk_9, tk_10, tk_11, tk_12, tk_13, tk_14, tk_15, tk_16, tk_20, tk_24, tk_25, tk_26, tk_27, tk_28, tk_29, tk_30, tk_31, tk_32, tk_40, tk_41, tk_45, tk_46, tk_47, tk_48, tk_49, tk_50, tk_51, tk_57, tk_60, tk_99, tk_100, tk_120, tk_128, tk_231, tk_240, tk_255, tk_500, tk_999, tk_9999, tk_10000, pk_mul, nI_add, tk_c, tk_in, tk_lt, tk_le, tk_eq, tk_and31, tk_shl1, tk_shr1, tk_and1, tk_or, tk_ite, tk_tb, tk_mn, tk_mx]
    refine ⟨fun _ => by omega, fun _ _ => by omega, ?_⟩
    rw [if_neg (by omega)]
    by_cases hd : dgB tx ln p = true
    · rw [if_pos hd] at hQ
      obtain ⟨-, d1, d2⟩ := dgB_iff.mp hd
      rw [if_neg (by omega), if_neg (by omega)]
      exact hQ
    · rw [if_neg hd] at hQ
      by_cases h4 : tx p < 48
      · rw [if_pos h4]; exact hQ
      · rw [if_neg h4, if_pos (Nat.lt_of_not_le (fun h5 => hd (dgB_iff.mpr ⟨h, by omega, h5⟩)))]; exact hQ
  · rw [if_neg (fun hd => h (dgB_iff.mp hd).1)] at hQ
    rw [e1, e2, if_pos ((tk_le (by omega) (by omega)).mpr (by omega))]
    exact ⟨fun h2 => absurd ((tk_le (by omega) (by omega)).mpr (by omega)) h2, fun h2 => absurd ((tk_le (by omega) (by omega)).mpr (by omega)) h2, hQ⟩
theorem lk_dg (hb : ∀ k, k < ln → 1 ≤ tx k ∧ tx k < 256) : (¬ lk tx ln p < 48 ∧ lk tx ln p ≤ 57) ↔ dgB tx ln (sk tx ln p) = true := by
  unfold lk
  by_cases h : sk tx ln p < ln
  · have := hb _ h
    rw [if_pos h, show (48 : Int32) = nI 48 from rfl, show (57 : Int32) = nI 57 from rfl, tk_lt (by omega) (by omega), tk_le (by omega) (by omega), dgB_iff]
    unfold dg
    omega
  · rw [if_neg h]
    exact ⟨fun h2 => absurd (by decide) h2.1, fun h2 => absurd (dgB_iff.mp h2).1 h⟩
theorem c_digit (S : hTape G R K n t) (V : TP I t ln tx) (hp : p ≤ ln) (h1 : dgB tx ln (sk tx ln p) = true → Q (some (.int (nI (tx (sk tx ln p) - 48)))) (zU I t 2 (nI (sk tx ln p + 1)), J, R, K, n)) (h0 : ¬ dgB tx ln (sk tx ln p) = true → Q (some (.int (-1))) (zU I t 2 (nI (sk tx ln p)), J, R, K, n)) : zC G (d + 2) mX9_digit 0 0 [.ref t] (zU I t 2 (nI p), J, R, K, n) Q := by
  have hb : ∀ k, k < ln → 1 ≤ tx k ∧ tx k < 256 := fun k hk => (V.2.2 k hk).2
  refine zC.of (by decide) (Nat.le_of_ble_eq_true rfl) ?_
  refine wX9_digit_0 t S ?_
  refine c_next S V hp ?_
  refine ⟨_, _, rfl, rfl, ?_⟩
  refine ⟨fun h => h0 (fun h2 => ((lk_dg hb).mpr h2).1 h), fun h => ⟨fun h2 => ?_, fun h2 => h0 (fun h3 => h2 ((lk_dg hb).mpr h3).2)⟩⟩
  have h3 := (lk_dg hb).mp ⟨h, h2⟩
  obtain ⟨g1, g2, g3⟩ := dgB_iff.mp h3
  rintro _ rfl
  rw [zU_two, zU_self, nI_1]
  have e : lk tx ln p - 48 = nI (tx (sk tx ln p) - 48) := by
    unfold lk
    rw [if_pos g1]
    exact tk_sub (b := 48) g2
  rw [e]
  exact h1 h3
theorem l_number (S : hTape G R K n t) (V : TP I t ln tx) {D : Nat} (hD : D ≤ 4) : ∀ (j i p v : Nat), i + j = D → v < 10 ^ i → p ≤ ln → (dgB tx ln (numF tx ln j p v).1 = true → Q (some (.int (-1))) (zU I t 2 (nI (numF tx ln j p v).1), J, R, K, n)) → (¬ dgB tx ln (numF tx ln j p v).1 = true → Q (some (.int (nI (numF tx ln j p v).2))) (zU I t 2 (nI (numF tx ln j p v).1), J, R, K, n)) → zV G (d + 2) mX9_number 0 0 18 [(0, .ref t), (1, .int (nI D)), (2, .int (nI v)), (3, .int (nI i))] [] (zU I t 2 (nI p), J, R, K, n) Q := by
  have hl := V.1
  intro j
  induction j with
  | zero =>
    intro i p v hi hv hp h1 h0
    rw [numF] at h1 h0
    refine wX9_number_18 t S _ _ _ ⟨fun _ => ?_, fun h => absurd ((tk_le (by omega) (by omega)).mpr (by omega)) h⟩
    refine c_atDigit S V hp ?_
    refine ⟨_, _, rfl, rfl, ?_⟩
    by_cases hd : dgB tx ln p = true
    · rw [if_pos hd, if_neg (by decide)]
      exact h1 hd
    · rw [if_neg hd, if_pos rfl]
      exact h0 hd
  | succ j ih =>
    intro i p v hi hv hp h1 h0
    rw [numF] at h1 h0
    have h4 : 10 ^ i ≤ 10 ^ 4 := Nat.pow_le_pow_right (by decide) (by omega)
    have h5 : 10 ^ (i + 1) = 10 ^ i * 10 := Nat.pow_succ ..
    refine wX9_number_18 t S _ _ _ ⟨fun h => ?_, fun _ => ?_⟩
    · rw [tk_le (by omega) (by omega)] at h
      omega
    · refine c_atDigit S V hp ?_
      refine ⟨_, _, rfl, rfl, ?_⟩
      by_cases hd : dgB tx ln p = true
      · rw [if_pos hd] at h1 h0
        rw [if_pos hd]
        obtain ⟨g1, g2, g3⟩ := dgB_iff.mp hd
        obtain ⟨e1, e2, e3⟩ := V.e (nI p)
        refine ⟨fun h => absurd h (by decide), fun _ => ?_⟩
        rw [e2, e3]
        refine ⟨(tk_in (by omega) (by omega)).mpr (by omega), ?_⟩
        rintro _ rfl
        rw [zU_two, nI_1, nI_1, tk_c (by omega), (V.2.2 p g1).1]
        rw [show (10 : Int32) * nI v + nI (tx p) - 48 = nI (10 * v + (tx p - 48)) by
          rw [show (10 : Int32) = nI 10 from rfl, pk_mul, nI_add, show (48 : Int32) = nI 48 from rfl, tk_sub (by omega), Nat.add_sub_assoc g2]]
        exact ih (i + 1) (p + 1) _ (by omega) (by omega) (by omega) h1 h0
      · rw [if_neg hd] at h1 h0
        rw [if_neg hd]
        refine ⟨fun _ => ?_, fun h => absurd rfl h⟩
        refine c_atDigit S V hp ?_
        refine ⟨_, _, rfl, rfl, ?_⟩
        rw [if_neg hd, if_pos rfl]
        exact h0 hd
/-- what a number gives: where it ends, and its value (none: a fault) -/
def nmA (tx : Nat → Nat) (ln D p : Nat) : Nat × Option Nat :=
  if dgB tx ln (sk tx ln p) then (if dgB tx ln (numF tx ln D (sk tx ln p) 0).1 then ((numF tx ln D (sk tx ln p) 0).1, none) else ((numF tx ln D (sk tx ln p) 0).1, some (numF tx ln D (sk tx ln p) 0).2)) else (sk tx ln p, none)
theorem c_number (S : hTape G R K n t) (V : TP I t ln tx) (hp : p ≤ ln) {D : Nat} (hD : D ≤ 4) (h1 : ∀ v, (nmA tx ln D p).2 = some v → Q (some (.int (nI v))) (zU I t 2 (nI (nmA tx ln D p).1), J, R, K, n)) (h0 : (nmA tx ln D p).2 = none → Q (some (.int (-1))) (zU I t 2 (nI (nmA tx ln D p).1), J, R, K, n)) : zC G (d + 2) mX9_number 0 0 [.ref t, .int (nI D)] (zU I t 2 (nI p), J, R, K, n) Q := by
  have hs := sk_le (tx := tx) hp
  unfold nmA at h1 h0
  refine zC.of (by decide) (Nat.le_of_ble_eq_true rfl) ?_
  refine wX9_number_0 t S _ ?_
  refine c_next S V hp ?_
  refine ⟨_, _, rfl, rfl, ?_⟩
  refine c_atDigit S V hs ?_
  refine ⟨_, _, rfl, rfl, ?_⟩
  by_cases hd : dgB tx ln (sk tx ln p) = true
  · rw [if_pos hd] at h1 h0
    rw [if_pos hd]
    refine ⟨fun h => absurd h (by decide), fun _ => ?_⟩
    refine l_number S V hD D 0 _ 0 (by omega) (by decide) hs (fun h => ?_) (fun h => ?_)
    · rw [if_pos h] at h0
      exact h0 rfl
    · rw [if_neg h] at h1
      exact h1 _ rfl
  · rw [if_neg hd] at h0
    rw [if_neg hd]
    exact ⟨fun _ => h0 rfl, fun h => absurd rfl h⟩
end
/-! THE MODEL'S TEXT -/
def sb (b : Nat) : Int32 := (nI b).toInt8.toInt32
theorem sbb_dec : ∀ b : Nat, b < 256 → (sb b &&& 255 = nI b ∧ (sb b = 32 ↔ b = 32) ∧ (sb b < 48 → b < 48 ∨ 57 < b) ∧ (57 < sb b → 57 < b) ∧ (¬ sb b < 48 → ¬ 57 < sb b → 48 ≤ b ∧ b ≤ 57) ∧ (48 ≤ b → b ≤ 57 → sb b = nI b)) := by decide +kernel
def TM (I : Nat → Nat → Int32) (m t c bg ln : Nat) (tx : Nat → Nat) : Prop := ln ≤ 240 ∧ bg + ln ≤ c ∧ c ≤ 960 ∧ I m 8 = nI bg ∧ I m 9 = nI ln ∧ ∀ k, k < ln → I t (bg + k) = sb (tx k) ∧ 1 ≤ tx k ∧ tx k < 256
/-- where reading stands, the fault, how deep -/
def MH (I : Nat → Nat → Int32) (m p : Nat) (f e : Int32) : Nat → Nat → Int32 := fun b k => if b = m then (if k = 10 then nI p else if k = 11 then f else if k = 12 then e else I m k) else I b k
theorem MH_10 {I : Nat → Nat → Int32} {m p q : Nat} {f e : Int32} : zU (MH I m p f e) m 10 (nI q) = MH I m q f e := by
  funext b k
  simp only [zU, MH]
  by_cases h : b = m
  · by_cases h1 : k = 10 <;> simp [h, h1]
  · simp [h]
theorem MH_11 {I : Nat → Nat → Int32} {m p : Nat} {f f' e : Int32} : zU (MH I m p f e) m 11 f' = MH I m p f' e := by
  funext b k
  simp only [zU, MH]
  by_cases h : b = m
  · by_cases h1 : k = 11
    · simp [h, h1]
    · by_cases h2 : k = 10 <;> simp [h, h1, h2]
  · simp [h]
theorem MH_12 {I : Nat → Nat → Int32} {m p : Nat} {f e e' : Int32} : zU (MH I m p f e) m 12 e' = MH I m p f e' := by
  funext b k
  simp only [zU, MH]
  by_cases h : b = m
  · by_cases h1 : k = 12
    · simp [h, h1]
    · by_cases h2 : k = 10
      · simp [h, h2]
      · by_cases h3 : k = 11 <;> simp [h, h1, h2, h3]
  · simp [h]
theorem MH_at {I : Nat → Nat → Int32} {m p : Nat} {f e : Int32} : MH I m p f e m 10 = nI p ∧ MH I m p f e m 11 = f ∧ MH I m p f e m 12 = e := by simp [MH]
theorem MH_m {I : Nat → Nat → Int32} {m p k : Nat} {f e : Int32} (h : k < 10 ∨ 12 < k) : MH I m p f e m k = I m k := by
  unfold MH
  rw [if_pos rfl, if_neg (by omega), if_neg (by omega), if_neg (by omega)]
theorem MH_b {I : Nat → Nat → Int32} {m p b : Nat} {f e : Int32} (h : b ≠ m) : MH I m p f e b = I b := by
  funext k
  unfold MH
  rw [if_neg h]
theorem MH_I {I : Nat → Nat → Int32} {m p : Nat} (h : I m 10 = nI p) : MH I m p (I m 11) (I m 12) = I := by
  funext b k
  unfold MH
  by_cases h1 : b = m
  · subst h1
    rw [if_pos rfl]
    by_cases h2 : k = 10
    · subst h2; rw [if_pos rfl, h]
    · rw [if_neg h2]
      by_cases h3 : k = 11
      · subst h3; rw [if_pos rfl]
      · rw [if_neg h3]
        by_cases h4 : k = 12
        · subst h4; rw [if_pos rfl]
        · rw [if_neg h4]
  · rw [if_neg h1]
section
variable {G : zG} {d : Nat} {I : Nat → Nat → Int32} {J : Nat → Nat → Int64} {R : Nat → Nat → Option Nat} {K : Nat → Nat × Nat} {n : Nat} {m t c bg ln p : Nat} {tx : Nat → Nat} {f e : Int32} {Q : Option Value → zH → Prop}
theorem hMod.ne (S : hMod G R K n m t c) : t ≠ m := by
  intro h
  have h1 := (Mod_0 S).2.2
  have h2 := (Mod_44 S).2.2
  rw [h] at h2
  rw [h2] at h1
  exact absurd h1 (show ¬ (33 : Nat) = 12 by decide)
theorem TM.ee (V : TM I m t c bg ln tx) (ht : t ≠ m) (p : Nat) (f e : Int32) : MH I m p f e m 8 = nI bg ∧ MH I m p f e m 9 = nI ln ∧ MH I m p f e m 10 = nI p ∧ MH I m p f e t = I t := ⟨by rw [MH_m (by omega)]; exact V.2.2.2.1, by rw [MH_m (by omega)]; exact V.2.2.2.2.1, MH_at.1, MH_b ht⟩
theorem l_look (S : hMod G R K n m t c) (V : TM I m t c bg ln tx) : ∀ (j p : Nat), ln ≤ p + j → p ≤ ln → Q (some (.int (lk tx ln p))) (MH I m (sk tx ln p) f e, J, R, K, n) → zV G (d + 1) mX12_look 0 0 0 [(0, .ref m)] [] (MH I m p f e, J, R, K, n) Q := by
  have hl := V.1
  have hc := V.2.1
  have hc2 := V.2.2.1
  intro j
  induction j with
  | zero =>
    intro p h1 h2 hQ
    obtain rfl : p = ln := by omega
    obtain ⟨e8, e9, e10, et⟩ := V.ee S.ne p f e
    have hs : sk tx p p = p := sk_stop (by omega)
    unfold lk at hQ
    rw [hs, if_neg (by omega)] at hQ
    refine wX12_look_0 m t c S ⟨fun _ => ?_, fun h => ?_⟩
    · rw [e9, e10, if_pos ((tk_le (by omega) (by omega)).mpr (Nat.le_refl _))]
      exact ⟨fun h => absurd ((tk_le (by omega) (by omega)).mpr (Nat.le_refl _)) h, hQ⟩
    · rw [e9, e10] at h
      exact absurd ((tk_le (by omega) (by omega)).mpr (Nat.le_refl _)) h
  | succ j ih =>
    intro p h1 h2 hQ
    obtain ⟨e8, e9, e10, et⟩ := V.ee S.ne p f e
    by_cases hp : p < ln
    · obtain ⟨b1, b2, b3⟩ := V.2.2.2.2.2 p hp
      obtain ⟨s1, s2, -⟩ := sbb_dec (tx p) b3
      refine wX12_look_0 m t c S ⟨fun h => ?_, fun _ => ?_⟩
      · rw [e9, e10, tk_le (by omega) (by omega)] at h
        omega
      · rw [e8, e9, e10, et, nI_add, tk_c (by omega), b1, s1]
        refine ⟨(tk_in (by omega) (by omega)).mpr (by omega), fun h => ?_, fun h => ⟨fun _ => (tk_in (by omega) (by omega)).mpr (by omega), ?_⟩⟩
        · rintro _ rfl
          rw [nI_1, MH_10]
          rw [lk, sk_step hp (s2.mp h)] at hQ
          exact ih (p + 1) (by omega) (by omega) hQ
        · have hs : sk tx ln p = p := sk_stop (fun h3 => h (s2.mpr h3.2))
          unfold lk at hQ
          rw [hs, if_pos hp] at hQ
          rw [if_neg (by rw [tk_le (by omega) (by omega)]; omega)]
          exact hQ
    · obtain rfl : p = ln := by omega
      have hs : sk tx p p = p := sk_stop (by omega)
      unfold lk at hQ
      rw [hs, if_neg (by omega)] at hQ
      refine wX12_look_0 m t c S ⟨fun _ => ?_, fun h => ?_⟩
      · rw [e9, e10, if_pos ((tk_le (by omega) (by omega)).mpr (Nat.le_refl _))]
        exact ⟨fun h => absurd ((tk_le (by omega) (by omega)).mpr (Nat.le_refl _)) h, hQ⟩
      · rw [e9, e10] at h
        exact absurd ((tk_le (by omega) (by omega)).mpr (Nat.le_refl _)) h
theorem c_look (S : hMod G R K n m t c) (V : TM I m t c bg ln tx) (hp : p ≤ ln) (hQ : Q (some (.int (lk tx ln p))) (MH I m (sk tx ln p) f e, J, R, K, n)) : zC G (d + 1) mX12_look 0 0 [.ref m] (MH I m p f e, J, R, K, n) Q := by
  refine zC.of (by decide) (Nat.le_of_ble_eq_true rfl) ?_
  exact l_look S V (ln - p) p (by omega) hp hQ
theorem c_fails (S : hMod G R K n m t c) (hQ : Q (some (.int 0)) (MH I m p (nI p) e, J, R, K, n)) : zC G (d + 1) mX12_fails 0 0 [.ref m] (MH I m p (-1) e, J, R, K, n) Q := by
  refine zC.of (by decide) (Nat.le_of_ble_eq_true rfl) ?_
  refine wX12_fails_0 m t c S ?_
  rw [MH_at.2.1, MH_at.1]
  refine ⟨fun _ => ?_, fun h => absurd rfl h⟩
  rintro _ rfl
  rw [MH_11]
  exact hQ
theorem c_fails_f (S : hMod G R K n m t c) {q : Nat} (hq : q < 1000) (hQ : Q (some (.int 0)) (MH I m p (nI q) e, J, R, K, n)) : zC G (d + 1) mX12_fails 0 0 [.ref m] (MH I m p (nI q) e, J, R, K, n) Q := by
  refine zC.of (by decide) (Nat.le_of_ble_eq_true rfl) ?_
  refine wX12_fails_0 m t c S ?_
  rw [MH_at.2.1]
  exact ⟨fun h => absurd ((tk_m1 (by omega)).mp h) id, fun _ => hQ⟩
theorem c_takes (S : hMod G R K n m t c) (V : TM I m t c bg ln tx) (hp : p ≤ ln) {s : Int32} (h1 : lk tx ln p = s → Q (some (.int 1)) (MH I m (sk tx ln p + 1) (-1) e, J, R, K, n)) (h0 : lk tx ln p ≠ s → Q (some (.int 0)) (MH I m (sk tx ln p) (nI (sk tx ln p)) e, J, R, K, n)) : zC G (d + 2) mX12_takes 0 0 [.ref m, .int s] (MH I m p (-1) e, J, R, K, n) Q := by
  refine zC.of (by decide) (Nat.le_of_ble_eq_true rfl) ?_
  refine wX12_takes_0 m t c S _ ?_
  rw [MH_at.2.1]
  refine ⟨fun _ => ?_, fun h => absurd rfl h⟩
  refine c_look S V hp ?_
  refine ⟨_, _, rfl, rfl, ?_⟩
  refine ⟨fun h => ?_, fun h => ?_⟩
  · rintro _ rfl
    rw [MH_at.1, nI_1, MH_10]
    exact h1 h
  · refine c_fails S ?_
    refine ⟨_, _, rfl, rfl, ?_⟩
    exact ⟨Or.inl rfl, h0 h⟩
theorem c_takes_f (S : hMod G R K n m t c) {q : Nat} (hq : q < 1000) {s : Int32} (hQ : Q (some (.int 0)) (MH I m p (nI q) e, J, R, K, n)) : zC G (d + 2) mX12_takes 0 0 [.ref m, .int s] (MH I m p (nI q) e, J, R, K, n) Q := by
  refine zC.of (by decide) (Nat.le_of_ble_eq_true rfl) ?_
  refine wX12_takes_0 m t c S _ ?_
  rw [MH_at.2.1]
  refine ⟨fun h => absurd ((tk_m1 (by omega)).mp h) id, fun _ => ?_⟩
  refine c_fails_f S hq ?_
  refine ⟨_, _, rfl, rfl, ?_⟩
  exact ⟨Or.inl rfl, hQ⟩
theorem c_goesIn (S : hMod G R K n m t c) {k : Nat} (hk : k ≤ 6) (h1 : k < 6 → Q (some (.int 1)) (MH I m (p + 1) (-1) (nI (k + 1)), J, R, K, n)) (h0 : ¬ k < 6 → Q (some (.int 0)) (MH I m p (nI p) (nI k), J, R, K, n)) : zC G (d + 2) mX12_goesIn 0 0 [.ref m] (MH I m p (-1) (nI k), J, R, K, n) Q := by
  refine zC.of (by decide) (Nat.le_of_ble_eq_true rfl) ?_
  refine wX12_goesIn_0 m t c S ?_
  rw [MH_at.2.2, show (6 : Int32) = nI 6 from rfl, tk_eq (by omega) (by omega)]
  refine ⟨fun h => ?_, fun h => ?_⟩
  · subst h
    refine c_fails S ?_
    refine ⟨_, _, rfl, rfl, ?_⟩
    exact ⟨Or.inl rfl, h0 (by omega)⟩
  · rintro _ rfl _ rfl
    rw [nI_1, MH_12, MH_at.1, nI_1, MH_10]
    exact h1 (by omega)
theorem c_isDigit (S : hMod G R K n m t c) (V : TM I m t c bg ln tx) (hp : p ≤ ln) (hQ : Q (some (.int (if dgB tx ln p then 1 else 0))) (MH I m p f e, J, R, K, n)) : zC G (d + 1) mX12_isDigit 0 0 [.ref m] (MH I m p f e, J, R, K, n) Q := by
  have hl := V.1
  have hc := V.2.1
  have hc2 := V.2.2.1
  obtain ⟨e8, e9, e10, et⟩ := V.ee S.ne p f e
  refine zC.of (by decide) (Nat.le_of_ble_eq_true rfl) ?_
  refine wX12_isDigit_0 m t c S ?_
  by_cases h : p < ln
  · obtain ⟨b1, b2, b3⟩ := V.2.2.2.2.2 p h
    obtain ⟨-, -, s3, s4, s5, -⟩ := sbb_dec (tx p) b3
    rw [e8, e9, e10, et, nI_add, tk_c (by omega), b1]
    refine ⟨fun _ => (tk_in (by omega) (by omega)).mpr (by omega), fun _ _ => (tk_in (by omega) (by omega)).mpr (by omega), ?_⟩
    rw [if_neg (by rw [tk_le (by omega) (by omega)]; omega)]
    by_cases h4 : sb (tx p) < 48
    · rw [if_pos h4]
      rw [if_neg (fun hd => by have := (dgB_iff.mp hd).2; have := s3 h4; omega)] at hQ
      exact hQ
    · rw [if_neg h4]
      by_cases h5 : 57 < sb (tx p)
      · rw [if_pos h5]
        rw [if_neg (fun hd => by have := (dgB_iff.mp hd).2; have := s4 h5; omega)] at hQ
        exact hQ
      · rw [if_neg h5]
        rw [if_pos (dgB_iff.mpr ⟨h, s5 h4 h5⟩)] at hQ
        exact hQ
  · rw [if_neg (fun hd => h (dgB_iff.mp hd).1)] at hQ
    rw [e9, e10, if_pos ((tk_le (by omega) (by omega)).mpr (by omega))]
    exact ⟨fun h2 => absurd ((tk_le (by omega) (by omega)).mpr (by omega)) h2, fun h2 => absurd ((tk_le (by omega) (by omega)).mpr (by omega)) h2, hQ⟩
theorem c_here (S : hMod G R K n m t c) (V : TM I m t c bg ln tx) (hp : p < ln) (hQ : Q (some (.int (nI (tx p)))) (MH I m p f e, J, R, K, n)) : zC G (d + 1) mX12_here 0 0 [.ref m] (MH I m p f e, J, R, K, n) Q := by
  have hl := V.1
  have hc := V.2.1
  have hc2 := V.2.2.1
  obtain ⟨e8, e9, e10, et⟩ := V.ee S.ne p f e
  obtain ⟨b1, b2, b3⟩ := V.2.2.2.2.2 p hp
  obtain ⟨s1, -⟩ := sbb_dec (tx p) b3
  refine zC.of (by decide) (Nat.le_of_ble_eq_true rfl) ?_
  refine wX12_here_0 m t c S ?_
  rw [e8, e9, e10, et, nI_add, tk_c (by omega), b1, s1, if_neg (by rw [tk_le (by omega) (by omega)]; omega)]
  exact ⟨fun _ => (tk_in (by omega) (by omega)).mpr (by omega), hQ⟩
end
