/-! THE FACE: text: the class -/
theorem X_vw {G : zG} {R R1 : Nat → Nat → Option Nat} {K : Nat → Nat × Nat} {n x v w q v' w' : Nat} (S : hX G R K n x v w q) (Sv : hVil G R K n v') (Sw : hVil G R K n w') (h : ∀ b k, ¬ (b = x + 3 ∧ k = 0) → ¬ (b = x ∧ k = 11) → R1 b k = R b k) (h0 : R1 (x + 3) 0 = some v') (h1 : R1 x 11 = some w') (e1 : v' ≠ x + 3) (e2 : v' ≠ x) (e3 : w' ≠ x + 3) (e4 : w' ≠ x) (e5 : q ≠ x + 3) (e6 : q ≠ x) : hX G R1 K n x v' w' q := by
  have hV : hVil G R1 K n v' := by
    unfold hVil at Sv ⊢
    simp (disch := omega) only [h]
    exact Sv
  have hW : hVil G R1 K n w' := by
    unfold hVil at Sw ⊢
    simp (disch := omega) only [h]
    exact Sw
  have hSe : hSet G R1 K n (x + 3) v' := by
    have s := X_26 S
    unfold hSet at s ⊢
    exact ⟨s.1, h0, hV, by rw [h _ _ (by omega) (by omega)]; exact s.2.2.2.1, s.2.2.2.2⟩
  have hS1 : ∀ a, a ≠ x + 3 → a ≠ x → hSt G R K n a (x + 3) v → hSt G R1 K n a (x + 3) v' := fun a a1 a2 s => by
    unfold hSt at s ⊢
    simp (disch := omega) only [h]
    simp only [hSe, and_true]
    simp_all
  have s5 := hS1 (x + 12) (by omega) (by omega) (X_5 S)
  have s7 := hS1 (x + 20) (by omega) (by omega) (X_7 S)
  refine ⟨X_0 S, by rw [h _ _ (by omega) (by omega)]; exact X_1 S, ?_, by rw [h _ _ (by omega) (by omega)]; exact X_3 S, by rw [h _ _ (by omega) (by omega)]; exact X_4 S, s5, by rw [h _ _ (by omega) (by omega)]; exact X_6 S, s7, by rw [h _ _ (by omega) (by omega)]; exact X_8 S, ?_, by rw [h _ _ (by omega) (by omega)]; exact X_10 S, ?_, by rw [h _ _ (by omega) (by omega)]; exact X_12 S, ?_, by rw [h _ _ (by omega) (by omega)]; exact X_14 S, ?_, by rw [h _ _ (by omega) (by omega)]; exact X_16 S, ?_, by rw [h _ _ (by omega) (by omega)]; exact X_18 S, X_19 S, by rw [h _ _ (by omega) (by omega)]; exact X_20 S, X_21 S, h1, hW, by rw [h _ _ (by omega) (by omega)]; exact X_24 S, ?_, hSe⟩
  · have s := X_2 S
    unfold hTape at s ⊢
    simp (disch := omega) only [h]
    exact s
  · have s := X_9 S
    unfold hHis at s ⊢
    simp (disch := omega) only [h]
    exact s
  · have s := X_11 S
    unfold hSea at s ⊢
    simp (disch := omega) only [h]
    exact ⟨s.1, s.2.1, s7, s.2.2.2.1, s.2.2.2.2⟩
  · have s := X_13 S
    unfold hSig at s ⊢
    simp (disch := omega) only [h]
    simp_all
  · have s := X_15 S
    unfold hGam at s ⊢
    simp (disch := omega) only [h]
    simp_all
  · have s := X_17 S
    unfold hLr0 at s ⊢
    simp (disch := omega) only [h]
    exact s
  · have s := X_25 S
    unfold hSpr at s ⊢
    simp (disch := omega) only [h]
    exact s
theorem X_q0 {G : zG} {R R1 : Nat → Nat → Option Nat} {K : Nat → Nat × Nat} {n x v w q q' : Nat} (S : hX G R K n x v w q) (Sq : hSpr G R1 K n q') (h : ∀ b k, ¬ (b = x ∧ k = 12) → R1 b k = R b k) (h1 : R1 x 12 = some q') (e1 : v ≠ x) (e2 : w ≠ x) : hX G R1 K n x v w q' := by
  have hR : ∀ b, b ≠ x → R1 b = R b := fun b hb => funext fun k => h b k (by omega)
  refine ⟨X_0 S, by rw [h _ _ (by omega)]; exact X_1 S, ?_, by rw [h _ _ (by omega)]; exact X_3 S, by rw [h _ _ (by omega)]; exact X_4 S, ?_, by rw [h _ _ (by omega)]; exact X_6 S, ?_, by rw [h _ _ (by omega)]; exact X_8 S, ?_, by rw [h _ _ (by omega)]; exact X_10 S, ?_, by rw [h _ _ (by omega)]; exact X_12 S, ?_, by rw [h _ _ (by omega)]; exact X_14 S, ?_, by rw [h _ _ (by omega)]; exact X_16 S, ?_, by rw [h _ _ (by omega)]; exact X_18 S, X_19 S, by rw [h _ _ (by omega)]; exact X_20 S, X_21 S, by rw [h _ _ (by omega)]; exact X_22 S, ?_, h1, Sq, ?_⟩
  · have s := X_2 S
    unfold hTape at s ⊢
    simp (disch := omega) only [h]
    exact s
  · have s := X_5 S
    unfold hSt hSet hVil at s ⊢
    simp (disch := omega) only [h]
    exact s
  · have s := X_7 S
    unfold hSt hSet hVil at s ⊢
    simp (disch := omega) only [h]
    exact s
  · have s := X_9 S
    unfold hHis at s ⊢
    simp (disch := omega) only [h]
    exact s
  · have s := X_11 S
    unfold hSea hSt hSet hVil at s ⊢
    simp (disch := omega) only [h]
    exact s
  · have s := X_13 S
    unfold hSig hSt hSet hVil at s ⊢
    simp (disch := omega) only [h]
    exact s
  · have s := X_15 S
    unfold hGam hSt hSet hVil at s ⊢
    simp (disch := omega) only [h]
    exact s
  · have s := X_17 S
    unfold hLr0 at s ⊢
    simp (disch := omega) only [h]
    exact s
  · have s := X_23 S
    unfold hVil at s ⊢
    simp (disch := omega) only [h]
    exact s
  · have s := X_26 S
    unfold hSet hVil at s ⊢
    simp (disch := omega) only [h]
    exact s
