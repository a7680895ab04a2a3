/-! THE CLASS'S STATE: rows kept and recalled; sins, days, steps; the start -/
theorem cpy_in {α : Type} {f g : Nat → α} {sp dp n j : Nat} (h : dp ≤ j) (h2 : j < dp + n) : va_cpy f g sp dp n j = f (sp + (j - dp)) := by unfold va_cpy; rw [if_pos ⟨h, h2⟩]
theorem cpy_out {α : Type} {f g : Nat → α} {sp dp n j : Nat} (h : j < dp ∨ dp + n ≤ j) : va_cpy f g sp dp n j = g j := by unfold va_cpy; rw [if_neg (by omega)]
/-- a row as it is kept -/
def KR (g : Nat → Int32) (T : Nat → Nat) : Prop :=
  (∀ p, p < 9 → g (18 + p) = nI (T (3 * p + 2)) ∧ (0 < T (3 * p + 2) → g p = nI (T (3 * p)) ∧ g (9 + p) = nI (T (3 * p + 1)))) ∧
  (∀ f, f < 6 → g (27 + f) = nI (T (27 + 3 * f)) ∧ g (33 + f) = nI (T (28 + 3 * f)) ∧ g (39 + f) = nI (T (29 + 3 * f))) ∧
  g 45 = nI (T 45) ∧ g 46 = nI (T 46) ∧ g 47 = nI (T 47) ∧ g 48 = nI (T 48) ∧ g 49 = nI (T 49)
theorem tk_i0 : (0 : Int32).toNatClampNeg = 0 := rfl
theorem tk_i9 : (9 : Int32).toNatClampNeg = 9 := rfl
theorem tk_i18 : (18 : Int32).toNatClampNeg = 18 := rfl
theorem tk_i27 : (27 : Int32).toNatClampNeg = 27 := rfl
theorem tk_i33 : (33 : Int32).toNatClampNeg = 33 := rfl
theorem tk_i39 : (39 : Int32).toNatClampNeg = 39 := rfl
theorem tk_i6 : (6 : Int32).toNatClampNeg = 6 := rfl
theorem tk_i45 : (45 : Int32).toNatClampNeg = 45 := rfl
theorem tk_i46 : (46 : Int32).toNatClampNeg = 46 := rfl
theorem tk_i47 : (47 : Int32).toNatClampNeg = 47 := rfl
theorem tk_i48 : (48 : Int32).toNatClampNeg = 48 := rfl
theorem tk_i49 : (49 : Int32).toNatClampNeg = 49 := rfl
section
variable {G : zG} {d : Nat} {I : Nat → Nat → Int32} {J : Nat → Nat → Int64} {R : Nat → Nat → Option Nat} {K : Nat → Nat × Nat} {n : Nat} {a s v nf B : Nat} {Y T : Nat → Nat} {Wc : Nat → Nat → Nat → Nat → Nat → Nat → Nat} {Q : Option Value → zH → Prop} {I' : Nat → Nat → Int32}
theorem c_keep {b : Nat} (S : hSt G R K n a s v) (hb : sA G K n b 32 50) (C : CS I a T) (hab : b < a ∨ a + 7 ≤ b) (hQ : ∀ I', KR (I' b) T → (∀ q, q ≠ b → I' q = I q) → Q none (I', J, R, K, n)) : zC G (d + 1) mX8_keep 0 0 [.ref a, .ref b] (I, J, R, K, n) Q := by
  refine zC.of (by decide) (Nat.le_of_ble_eq_true rfl) ?_
  refine wX8_keep_0 a s v b hb S ?_
  simp only [tk_i0, tk_i9, tk_i18, tk_i27, tk_i33, tk_i39, tk_i6, tk_i45, tk_i46, tk_i47, tk_i48, tk_i49]
  intro I1 e1
  have f1 : ∀ q, q ≠ b → I1 q = I q := fun q h => by rw [e1, zRow_off h]
  have g1 : I1 b = va_cpy (I (a + 1)) (I b) 0 0 9 := by rw [e1, zRow_at]
  intro I2 e2
  have f2 : ∀ q, q ≠ b → I2 q = I q := fun q h => by rw [e2, zRow_off h, f1 q h]
  have g2 : I2 b = va_cpy (I (a + 2)) (I1 b) 0 9 9 := by rw [e2, zRow_at, f1 _ (by omega)]
  intro I3 e3
  have f3 : ∀ q, q ≠ b → I3 q = I q := fun q h => by rw [e3, zRow_off h, f2 q h]
  have g3 : I3 b = va_cpy (I (a + 3)) (I2 b) 0 18 9 := by rw [e3, zRow_at, f2 _ (by omega)]
  intro I4 e4
  have f4 : ∀ q, q ≠ b → I4 q = I q := fun q h => by rw [e4, zRow_off h, f3 q h]
  have g4 : I4 b = va_cpy (I (a + 4)) (I3 b) 0 27 6 := by rw [e4, zRow_at, f3 _ (by omega)]
  intro I5 e5
  have f5 : ∀ q, q ≠ b → I5 q = I q := fun q h => by rw [e5, zRow_off h, f4 q h]
  have g5 : I5 b = va_cpy (I (a + 5)) (I4 b) 0 33 6 := by rw [e5, zRow_at, f4 _ (by omega)]
  intro I6 e6
  have f6 : ∀ q, q ≠ b → I6 q = I q := fun q h => by rw [e6, zRow_off h, f5 q h]
  have g6 : I6 b = va_cpy (I (a + 6)) (I5 b) 0 39 6 := by rw [e6, zRow_at, f5 _ (by omega)]
  refine ⟨(tk_in (n := 45) (by omega) (by omega)).mpr (by omega), ?_⟩
  intro I7 e7
  have f7 : ∀ q, q ≠ b → I7 q = I q := fun q h => by rw [e7, zU_off h, f6 q h]
  have g7 : ∀ j, I7 b j = if j = 45 then I a 6 else I6 b j := fun j => by rw [e7, zU_a, f6 _ (by omega)]
  refine ⟨(tk_in (n := 46) (by omega) (by omega)).mpr (by omega), ?_⟩
  intro I8 e8
  have f8 : ∀ q, q ≠ b → I8 q = I q := fun q h => by rw [e8, zU_off h, f7 q h]
  have g8 : ∀ j, I8 b j = if j = 46 then I a 7 else I7 b j := fun j => by rw [e8, zU_a, f7 _ (by omega)]
  refine ⟨(tk_in (n := 47) (by omega) (by omega)).mpr (by omega), ?_⟩
  intro I9 e9
  have f9 : ∀ q, q ≠ b → I9 q = I q := fun q h => by rw [e9, zU_off h, f8 q h]
  have g9 : ∀ j, I9 b j = if j = 47 then I a 8 else I8 b j := fun j => by rw [e9, zU_a, f8 _ (by omega)]
  refine ⟨(tk_in (n := 48) (by omega) (by omega)).mpr (by omega), ?_⟩
  intro I10 e10
  have f10 : ∀ q, q ≠ b → I10 q = I q := fun q h => by rw [e10, zU_off h, f9 q h]
  have g10 : ∀ j, I10 b j = if j = 48 then I a 9 else I9 b j := fun j => by rw [e10, zU_a, f9 _ (by omega)]
  refine ⟨(tk_in (n := 49) (by omega) (by omega)).mpr (by omega), ?_⟩
  intro I11 e11
  have f11 : ∀ q, q ≠ b → I11 q = I q := fun q h => by rw [e11, zU_off h, f10 q h]
  have g11 : ∀ j, I11 b j = if j = 49 then I a 10 else I10 b j := fun j => by rw [e11, zU_a, f10 _ (by omega)]
  refine hQ I11 ⟨fun p hp => ?_, fun f hf => ?_, ?_⟩ f11
  · have h := C.1 p hp
    refine ⟨?_, fun h0 => ⟨?_, ?_⟩⟩
    · rw [g11 _, if_neg (by omega), g10 _, if_neg (by omega), g9 _, if_neg (by omega), g8 _, if_neg (by omega), g7 _, if_neg (by omega), g6, cpy_out (by omega), g5, cpy_out (by omega), g4, cpy_out (by omega), g3, cpy_in (by omega) (by omega), show 0 + (18 + p - 18) = p by omega]; exact h.1
    · rw [g11 _, if_neg (by omega), g10 _, if_neg (by omega), g9 _, if_neg (by omega), g8 _, if_neg (by omega), g7 _, if_neg (by omega), g6, cpy_out (by omega), g5, cpy_out (by omega), g4, cpy_out (by omega), g3, cpy_out (by omega), g2, cpy_out (by omega), g1, cpy_in (by omega) (by omega), show 0 + (p - 0) = p by omega]; exact (h.2 h0).1
    · rw [g11 _, if_neg (by omega), g10 _, if_neg (by omega), g9 _, if_neg (by omega), g8 _, if_neg (by omega), g7 _, if_neg (by omega), g6, cpy_out (by omega), g5, cpy_out (by omega), g4, cpy_out (by omega), g3, cpy_out (by omega), g2, cpy_in (by omega) (by omega), show 0 + (9 + p - 9) = p by omega]; exact (h.2 h0).2
  · have h := C.2.1 f hf
    refine ⟨?_, ?_, ?_⟩
    · rw [g11 _, if_neg (by omega), g10 _, if_neg (by omega), g9 _, if_neg (by omega), g8 _, if_neg (by omega), g7 _, if_neg (by omega), g6, cpy_out (by omega), g5, cpy_out (by omega), g4, cpy_in (by omega) (by omega), show 0 + (27 + f - 27) = f by omega]; exact h.1
    · rw [g11 _, if_neg (by omega), g10 _, if_neg (by omega), g9 _, if_neg (by omega), g8 _, if_neg (by omega), g7 _, if_neg (by omega), g6, cpy_out (by omega), g5, cpy_in (by omega) (by omega), show 0 + (33 + f - 33) = f by omega]; exact h.2.1
    · rw [g11 _, if_neg (by omega), g10 _, if_neg (by omega), g9 _, if_neg (by omega), g8 _, if_neg (by omega), g7 _, if_neg (by omega), g6, cpy_in (by omega) (by omega), show 0 + (39 + f - 39) = f by omega]; exact h.2.2
  · have h := C.2.2
    refine ⟨?_, ?_, ?_, ?_, ?_⟩
    · rw [g11 _, if_neg (by omega), g10 _, if_neg (by omega), g9 _, if_neg (by omega), g8 _, if_neg (by omega), g7 _, if_pos rfl]; exact h.1
    · rw [g11 _, if_neg (by omega), g10 _, if_neg (by omega), g9 _, if_neg (by omega), g8 _, if_pos rfl]; exact h.2.1
    · rw [g11 _, if_neg (by omega), g10 _, if_neg (by omega), g9 _, if_pos rfl]; exact h.2.2.1
    · rw [g11 _, if_neg (by omega), g10 _, if_pos rfl]; exact h.2.2.2.1
    · rw [g11 _, if_pos rfl]; exact h.2.2.2.2
theorem c_recall {b : Nat} (S : hSt G R K n a s v) (hb : sA G K n b 32 50) (C : KR (I b) T) (hab : b < a ∨ a + 7 ≤ b) (hQ : ∀ I', CS I' a T → (∀ q, ¬ aSt a q → I' q = I q) → Q none (I', J, R, K, n)) : zC G (d + 1) mX8_recall 0 0 [.ref a, .ref b] (I, J, R, K, n) Q := by
  refine zC.of (by decide) (Nat.le_of_ble_eq_true rfl) ?_
  refine wX8_recall_0 a s v b hb S ?_
  simp only [tk_i0, tk_i9, tk_i18, tk_i27, tk_i33, tk_i39, tk_i6, tk_i45, tk_i46, tk_i47, tk_i48, tk_i49]
  intro I1 e1
  have f1 : ∀ q, ¬ (a + 1 ≤ q ∧ q ≤ a + 1) → I1 q = I q := fun q h => by rw [e1, zRow_off (by omega)]
  have g1 : ∀ j, j < 9 → I1 (a + 1) j = I b (0 + j) := fun j hj => by rw [e1, zRow_at, cpy_in (by omega) (by omega), Nat.sub_zero]
  intro I2 e2
  have f2 : ∀ q, ¬ (a + 1 ≤ q ∧ q ≤ a + 2) → I2 q = I q := fun q h => by rw [e2, zRow_off (by omega), f1 q (by omega)]
  have g2 : ∀ j, j < 9 → I2 (a + 2) j = I b (9 + j) := fun j hj => by rw [e2, zRow_at, cpy_in (by omega) (by omega), f1 b (by omega), Nat.sub_zero]
  intro I3 e3
  have f3 : ∀ q, ¬ (a + 1 ≤ q ∧ q ≤ a + 3) → I3 q = I q := fun q h => by rw [e3, zRow_off (by omega), f2 q (by omega)]
  have g3 : ∀ j, j < 9 → I3 (a + 3) j = I b (18 + j) := fun j hj => by rw [e3, zRow_at, cpy_in (by omega) (by omega), f2 b (by omega), Nat.sub_zero]
  intro I4 e4
  have f4 : ∀ q, ¬ (a + 1 ≤ q ∧ q ≤ a + 4) → I4 q = I q := fun q h => by rw [e4, zRow_off (by omega), f3 q (by omega)]
  have g4 : ∀ j, j < 6 → I4 (a + 4) j = I b (27 + j) := fun j hj => by rw [e4, zRow_at, cpy_in (by omega) (by omega), f3 b (by omega), Nat.sub_zero]
  intro I5 e5
  have f5 : ∀ q, ¬ (a + 1 ≤ q ∧ q ≤ a + 5) → I5 q = I q := fun q h => by rw [e5, zRow_off (by omega), f4 q (by omega)]
  have g5 : ∀ j, j < 6 → I5 (a + 5) j = I b (33 + j) := fun j hj => by rw [e5, zRow_at, cpy_in (by omega) (by omega), f4 b (by omega), Nat.sub_zero]
  intro I6 e6
  have f6 : ∀ q, ¬ (a + 1 ≤ q ∧ q ≤ a + 6) → I6 q = I q := fun q h => by rw [e6, zRow_off (by omega), f5 q (by omega)]
  have g6 : ∀ j, j < 6 → I6 (a + 6) j = I b (39 + j) := fun j hj => by rw [e6, zRow_at, cpy_in (by omega) (by omega), f5 b (by omega), Nat.sub_zero]
  refine ⟨(tk_in (n := 45) (by omega) (by omega)).mpr (by omega), ?_⟩
  intro I7 e7
  have f7 : ∀ q, ¬ (a ≤ q ∧ q ≤ a + 6) → I7 q = I q := fun q h => by rw [e7, zU_off (by omega), f6 q (by omega)]
  have g7 : ∀ j, I7 a j = if j = 6 then I b 45 else I6 a j := fun j => by rw [e7, zU_a, f6 b (by omega)]
  have h7 : ∀ q, q ≠ a → I7 q = I6 q := fun q h => by rw [e7, zU_off h]
  refine ⟨(tk_in (n := 46) (by omega) (by omega)).mpr (by omega), ?_⟩
  intro I8 e8
  have f8 : ∀ q, ¬ (a ≤ q ∧ q ≤ a + 6) → I8 q = I q := fun q h => by rw [e8, zU_off (by omega), f7 q (by omega)]
  have g8 : ∀ j, I8 a j = if j = 7 then I b 46 else I7 a j := fun j => by rw [e8, zU_a, f7 b (by omega)]
  have h8 : ∀ q, q ≠ a → I8 q = I6 q := fun q h => by rw [e8, zU_off h, h7 q h]
  refine ⟨(tk_in (n := 47) (by omega) (by omega)).mpr (by omega), ?_⟩
  intro I9 e9
  have f9 : ∀ q, ¬ (a ≤ q ∧ q ≤ a + 6) → I9 q = I q := fun q h => by rw [e9, zU_off (by omega), f8 q (by omega)]
  have g9 : ∀ j, I9 a j = if j = 8 then I b 47 else I8 a j := fun j => by rw [e9, zU_a, f8 b (by omega)]
  have h9 : ∀ q, q ≠ a → I9 q = I6 q := fun q h => by rw [e9, zU_off h, h8 q h]
  refine ⟨(tk_in (n := 48) (by omega) (by omega)).mpr (by omega), ?_⟩
  intro I10 e10
  have f10 : ∀ q, ¬ (a ≤ q ∧ q ≤ a + 6) → I10 q = I q := fun q h => by rw [e10, zU_off (by omega), f9 q (by omega)]
  have g10 : ∀ j, I10 a j = if j = 9 then I b 48 else I9 a j := fun j => by rw [e10, zU_a, f9 b (by omega)]
  have h10 : ∀ q, q ≠ a → I10 q = I6 q := fun q h => by rw [e10, zU_off h, h9 q h]
  refine ⟨(tk_in (n := 49) (by omega) (by omega)).mpr (by omega), ?_⟩
  intro I11 e11
  have f11 : ∀ q, ¬ (a ≤ q ∧ q ≤ a + 6) → I11 q = I q := fun q h => by rw [e11, zU_off (by omega), f10 q (by omega)]
  have g11 : ∀ j, I11 a j = if j = 10 then I b 49 else I10 a j := fun j => by rw [e11, zU_a, f10 b (by omega)]
  have h11 : ∀ q, q ≠ a → I11 q = I6 q := fun q h => by rw [e11, zU_off h, h10 q h]
  refine hQ I11 ⟨fun p hp => ?_, fun f hf => ?_, ?_⟩ (fun q h => f11 q (fun h2 => h ⟨h2.1, by omega⟩))
  · have h := C.1 p hp
    refine ⟨?_, fun h0 => ⟨?_, ?_⟩⟩
    · rw [h11 _ (by omega), e6, zRow_off (by omega), e5, zRow_off (by omega), e4, zRow_off (by omega), g3 _ (by omega)]; exact h.1
    · rw [h11 _ (by omega), e6, zRow_off (by omega), e5, zRow_off (by omega), e4, zRow_off (by omega), e3, zRow_off (by omega), e2, zRow_off (by omega), g1 _ (by omega), Nat.zero_add]; exact (h.2 h0).1
    · rw [h11 _ (by omega), e6, zRow_off (by omega), e5, zRow_off (by omega), e4, zRow_off (by omega), e3, zRow_off (by omega), g2 _ (by omega)]; exact (h.2 h0).2
  · have h := C.2.1 f hf
    refine ⟨?_, ?_, ?_⟩
    · rw [h11 _ (by omega), e6, zRow_off (by omega), e5, zRow_off (by omega), g4 _ (by omega)]; exact h.1
    · rw [h11 _ (by omega), e6, zRow_off (by omega), g5 _ (by omega)]; exact h.2.1
    · rw [h11 _ (by omega), g6 _ (by omega)]; exact h.2.2
  · have h := C.2.2
    refine ⟨?_, ?_, ?_, ?_, ?_⟩
    · rw [g11 _, if_neg (by omega), g10 _, if_neg (by omega), g9 _, if_neg (by omega), g8 _, if_neg (by omega), g7 _, if_pos rfl]; exact h.1
    · rw [g11 _, if_neg (by omega), g10 _, if_neg (by omega), g9 _, if_neg (by omega), g8 _, if_pos rfl]; exact h.2.1
    · rw [g11 _, if_neg (by omega), g10 _, if_neg (by omega), g9 _, if_pos rfl]; exact h.2.2.1
    · rw [g11 _, if_neg (by omega), g10 _, if_pos rfl]; exact h.2.2.2.1
    · rw [g11 _, if_pos rfl]; exact h.2.2.2.2
theorem c_copyFrom {b : Nat} (S : hSt G R K n a s v) (S' : hSt G R K n b s v) (C : CS I b T) (hab : b + 8 ≤ a ∨ a + 8 ≤ b) (hQ : ∀ I', CS I' a T → (∀ q, ¬ (a ≤ q ∧ q < a + 8) → I' q = I q) → Q none (I', J, R, K, n)) : zC G (d + 2) mX8_copyFrom 0 0 [.ref a, .ref b] (I, J, R, K, n) Q := by
  refine zC.of (by decide) (Nat.le_of_ble_eq_true rfl) ?_
  refine wX8_copyFrom_0 a s v b S S' ?_
  refine c_keep S' (St_16 S) C (by omega) ?_
  intro I1 k1 f1
  refine ⟨_, rfl, rfl, ?_⟩
  refine c_recall S (St_16 S) k1 (by omega) ?_
  intro I2 k2 f2
  refine ⟨_, rfl, rfl, ?_⟩
  exact hQ I2 k2 (fun q hq => by rw [f2 q (fun h => hq ⟨h.1, by have := h.2; omega⟩), f1 q (by omega)])
end
