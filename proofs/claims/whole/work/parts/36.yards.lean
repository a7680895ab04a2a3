/-! HOW MANY YARDS A WRONG IS WORTH -/
theorem qI {Q : Option Value → zH → Prop} {x y : Int32} {h : zH} (e : x = y) (hQ : Q (some (.int x)) h) : Q (some (.int y)) h := e ▸ hQ
def clampI (w : Int32) : Int32 := if (if (40 : Int32) < w then 40 else w) < 0 then 0 else (if (40 : Int32) < w then 40 else w)
def clampN (w : Int32) : Nat := (clampI w).toNatClampNeg
theorem clampN_eq (w : Int32) : clampI w = nI (clampN w) ∧ clampN w ≤ 40 := by
  unfold clampN
  have h : ∃ j : Nat, j ≤ 40 ∧ clampI w = nI j := by
    unfold clampI
    by_cases h1 : (40 : Int32) < w
    · rw [if_pos h1, if_neg (by decide)]
      exact ⟨40, Nat.le_refl _, rfl⟩
    · rw [if_neg h1]
      by_cases h2 : w < 0
      · rw [if_pos h2]
        exact ⟨0, by omega, rfl⟩
      · rw [if_neg h2]
        exact nI_of2 (M := 40) (by decide) h2 (by rw [Int32.le_iff_toInt_le]; rw [Int32.lt_iff_toInt_lt] at h1; omega)
  obtain ⟨j, hj, e⟩ := h
  rw [e, tk_c (by omega)]
  exact ⟨rfl, hj⟩
def lets (k g m b l d : Nat) : Nat → Int32 := fun j => if j = 0 then nI k else if j = 1 then nI g else if j = 2 then nI m else if j = 3 then nI b else if j = 4 then nI l else nI d
theorem runA_L {code : Nat → Int32} {c : Nat} {L L' : Nat → Int32} (h : ∀ j, j < 6 → L j = L' j) : ∀ (f i : Nat) (st : List Int32), runA code c L f i st = runA code c L' f i st
  | 0, _, _ => rfl
  | f + 1, i, st => by
    rw [runA, runA]
    simp only [runA_L h f]
    by_cases h1 : code i < 0
    · rw [if_pos h1, if_pos h1]
    · rw [if_neg h1, if_neg h1]
      by_cases h2 : code i - 10000 < 6
      · rw [if_pos h2, if_pos h2]
        by_cases h3 : (10000 : Int32) ≤ code i
        · rw [if_pos h3, if_pos h3]
          obtain ⟨j, hj, hj2⟩ := nI_of h1
          rw [hj2] at h2 h3 ⊢
          have h4 : nI 10000 ≤ nI j := h3
          rw [tk_le (by omega) (by omega)] at h4
          have h5 : nI j - 10000 = nI (j - 10000) := tk_sub (a := j) (b := 10000) h4
          rw [h5] at h2 ⊢
          have h6 : nI (j - 10000) < nI 6 := h2
          rw [tk_lt (by omega) (by omega)] at h6
          rw [tk_c (by omega), h _ h6]
        · rw [if_neg h3, if_neg h3]
      · rw [if_neg h2, if_neg h2]
def plainW (k g : Nat) : Nat := min 40 (2 * k + 1 - g / 3)
/-- the law that holds, as the class has it -/
def LW (G : zG) (R : Nat → Nat → Option Nat) (K : Nat → Nat × Nat) (n : Nat) (I : Nat → Nat → Int32) (s : Nat) (Wc : Nat → Nat → Nat → Nat → Nat → Nat → Nat) : Prop :=
  (R s 1 = none ∧ ∀ k g m b l d, Wc k g m b l d = plainW k g) ∨
  (∃ q c, R s 1 = some q ∧ hLaw G R K n q c ∧ c ≤ 240 ∧ s + 108 ≤ q ∧ ∀ k g m b l d, Wc k g m b l d = clampN (worthA (I (q + 1)) c (lets k g m b l d)))
theorem LW.le {G : zG} {R : Nat → Nat → Option Nat} {K : Nat → Nat × Nat} {n : Nat} {I : Nat → Nat → Int32} {s : Nat} {Wc : Nat → Nat → Nat → Nat → Nat → Nat → Nat} (L : LW G R K n I s Wc) (k g m b l d : Nat) : Wc k g m b l d ≤ 40 := by
  rcases L with ⟨-, h⟩ | ⟨q, c, -, -, -, -, h⟩
  · rw [h]; unfold plainW; omega
  · rw [h]; exact (clampN_eq _).2
/-- nothing changed but the letters and the stack of the law that holds, and what A says -/
def Fr (A : Nat → Prop) (R : Nat → Nat → Option Nat) (s : Nat) (I I' : Nat → Nat → Int32) : Prop := ∀ b, ¬ A b → b ≠ s + 8 → (∀ q, R s 1 = some q → b ≠ q + 2) → I' b = I b
theorem Fr.rf {A : Nat → Prop} {R : Nat → Nat → Option Nat} {s : Nat} {I : Nat → Nat → Int32} : Fr A R s I I := fun _ _ _ _ => rfl
theorem Fr.tr {A : Nat → Prop} {R : Nat → Nat → Option Nat} {s : Nat} {I I' I'' : Nat → Nat → Int32} (h : Fr A R s I I') (h' : Fr A R s I' I'') : Fr A R s I I'' := fun b h1 h2 h3 => (h' b h1 h2 h3).trans (h b h1 h2 h3)
theorem Fr.wide {A A' : Nat → Prop} {R : Nat → Nat → Option Nat} {s : Nat} {I I' : Nat → Nat → Int32} (h : Fr A R s I I') (hA : ∀ b, A b → A' b) : Fr A' R s I I' := fun b h1 h2 h3 => h b (fun h => h1 (hA b h)) h2 h3
theorem Fr.put {A : Nat → Prop} {R : Nat → Nat → Option Nat} {s : Nat} {I I' : Nat → Nat → Int32} (h : Fr A R s I I') {b k : Nat} {x : Int32} (hb : A b) : Fr A R s I (zU I' b k x) := fun q h1 h2 h3 => by
  rw [zU_off (fun e => h1 (by rw [e]; exact hb))]
  exact h q h1 h2 h3
/-- where a state stands, beside its setting and its village -/
def Geo (a s v : Nat) : Prop := s + 8 < a ∧ a + 8 ≤ s + 108 ∧ (v + 7 ≤ s + 8 ∨ a + 8 ≤ v) ∧ v + 7 ≤ s + 108
def aSt (a : Nat) : Nat → Prop := fun b => a ≤ b ∧ b < a + 7
def aNo : Nat → Prop := fun _ => False
section
variable {G : zG} {d : Nat} {I : Nat → Nat → Int32} {J : Nat → Nat → Int64} {R : Nat → Nat → Option Nat} {K : Nat → Nat × Nat} {n : Nat} {a s v nf B : Nat} {Y T : Nat → Nat} {Wc : Nat → Nat → Nat → Nat → Nat → Nat → Nat} {Q : Option Value → zH → Prop} {I' : Nat → Nat → Int32}
theorem LW.big (L : LW G R K n I s Wc) {q : Nat} (h : R s 1 = some q) : s + 108 ≤ q := by
  rcases L with ⟨h1, -⟩ | ⟨q', c, h1, -, -, h2, -⟩
  · rw [h] at h1; cases h1
  · rw [h] at h1; cases h1; exact h2
theorem Fr.low {A : Nat → Prop} (F : Fr A R s I I') (L : LW G R K n I s Wc) {b : Nat} (h1 : ¬ A b) (h2 : b ≠ s + 8) (h3 : b < s + 108) : I' b = I b := F b h1 h2 (fun q hq => by have := L.big hq; omega)
theorem Fr.law {A : Nat → Prop} (F : Fr A R s I I') (L : LW G R K n I s Wc) (hA : ∀ b, A b → b < s + 108) : LW G R K n I' s Wc := by
  rcases L with h | ⟨q, c, h1, h2, h3, h4, h5⟩
  · exact Or.inl h
  · refine Or.inr ⟨q, c, h1, h2, h3, h4, ?_⟩
    rw [F (q + 1) (fun h => by have := hA _ h; omega) (by omega) (fun q' hq' => by rw [h1] at hq'; cases hq'; omega)]
    exact h5
theorem Fr.cs {a' : Nat} {A : Nat → Prop} (F : Fr A R s I I') (L : LW G R K n I s Wc) (C : CS I a' T) (hA : ∀ b, A b → ¬ aSt a' b) (h1 : s + 8 < a') (h2 : a' + 8 ≤ s + 108) : CS I' a' T :=
  C.same (fun b g1 g2 => F.low L (fun h => hA b h ⟨g1, g2⟩) (by omega) (by omega))
theorem Fr.vl {A : Nat → Prop} (F : Fr A R s I I') (L : LW G R K n I s Wc) (V : VL I v nf Y) (hA : ∀ b, A b → b < v ∨ v + 7 ≤ b) (h1 : v + 7 ≤ s + 8 ∨ s + 8 < v) (h2 : v + 7 ≤ s + 108) : VL I' v nf Y := by
  have e0 := F.low L (b := v) (fun h => by have := hA _ h; omega) (by omega) (by omega)
  have e1 := F.low L (b := v + 1) (fun h => by have := hA _ h; omega) (by omega) (by omega)
  have e2 := F.low L (b := v + 2) (fun h => by have := hA _ h; omega) (by omega) (by omega)
  unfold VL
  rw [e0, e1, e2]
  exact V
def yardsA (Wc : Nat → Nat → Nat → Nat → Nat → Nat → Nat) (Y T : Nat → Nat) (p : Nat) : Nat :=
  min (Wc (T (3 * p + 2)) (Y (2 * T (3 * p + 1) + 1)) (T (29 + 3 * T (3 * p))) (bareA Y T (T (3 * p + 1))) (T 47) (T 49)) (min (bareA Y T (T (3 * p + 1))) (T 47))
theorem c_yardsOf (S : hSt G R K n a s v) (g : Geo a s v) (V : VL I v nf Y) (W : okV nf Y) (C : CS I a T) (O : okT B nf Y T) (L : LW G R K n I s Wc) {p : Nat} (hp : p < 9) (ho : 0 < T (3 * p + 2)) (hQ : ∀ I', Fr aNo R s I I' → Q (some (.int (nI (yardsA Wc Y T p)))) (I', J, R, K, n)) : zC G (d + 3) mX8_yardsOf 0 0 [.ref a, .int (nI p)] (I, J, R, K, n) Q := by
  have h6 := W.1
  have c1 := (C.1 p hp).1
  obtain ⟨c2, c3⟩ := (C.1 p hp).2 ho
  have o1 := (O.1 p hp).1
  obtain ⟨o2, o3, -⟩ := (O.1 p hp).2 ho
  have c4 := (V.2 _ o3).2
  have w4 := (W.2 _ o3).2.2
  have c5 := (C.2.1 (T (3 * p)) (by omega)).2.2
  have o5 := O.2.2.2.1 (T (3 * p)) (by omega)
  obtain ⟨-, -, o7, -, o9, oB⟩ := O.2.2.2.2
  have c7 : I a 8 = nI (T 47) := C.2.2.2.2.1
  have c9 : I a 10 = nI (T 49) := C.2.2.2.2.2.2
  have b4 := bareA_le (T := T) W o3
  refine zC.of (by decide) (Nat.le_of_ble_eq_true rfl) ?_
  refine wX8_yardsOf_0 a s v S _ ?_
  simp (disch := omega) only [c1, c2, c3, c4, tk_0, tk_1, tk_2, tk_3, tk_4, tk_5, tk_6, tk_7, tk_8, tk_9, tk_10, tk_11, tk_12, tk_13, tk_14, tk_15, tk_16, tk_20, tk_24, tk_25, tk_26, tk_27, tk_28, tk_29, tk_30, tk_31, tk_32, tk_40, tk_41, tk_45, tk_46, tk_47, tk_48, tk_49, tk_50, tk_51, tk_57, tk_60, tk_99, tk_100, tk_120, tk_128, tk_231, tk_240, tk_255, tk_500, tk_999, tk_9999, tk_10000, pk_mul, nI_add, tk_c, tk_in, tk_lt, tk_le, tk_eq, tk_and31, tk_shl1, tk_shr1, tk_and1, tk_or, tk_ite, tk_tb, tk_mn, tk_mx]
  refine ⟨by omega, by omega, by omega, fun hn => ?_, fun q hq => ?_⟩
  · have hW : ∀ k g m b l d, Wc k g m b l d = plainW k g := by
      rcases L with ⟨-, h⟩ | ⟨q', c, h1, -⟩
      · exact h
      · rw [hn] at h1; cases h1
    refine c_bare S V W C O o3 ?_
    refine ⟨_, _, rfl, rfl, ?_⟩
    refine qI ?_ (hQ I Fr.rf)
    simp (disch := omega) only [c7, tk_div, tk_sub, tk_0, tk_1, tk_2, tk_3, tk_4, tk_5, tk_6, tk_7, tk_8, tk_9, tk_10, tk_11, tk_12, tk_13, tk_14, tk_15, tk_16, tk_20, tk_24, tk_25, tk_26, tk_27, tk_28, tk_29, tk_30, tk_31, tk_32, tk_40, tk_41, tk_45, tk_46, tk_47, tk_48, tk_49, tk_50, tk_51, tk_57, tk_60, tk_99, tk_100, tk_120, tk_128, tk_231, tk_240, tk_255, tk_500, tk_999, tk_9999, tk_10000, pk_mul, nI_add, tk_c, tk_in, tk_lt, tk_le, tk_eq, tk_and31, tk_shl1, tk_shr1, tk_and1, tk_or, tk_ite, tk_tb, tk_mn, tk_mx]
    apply congrArg nI
    unfold yardsA
    rw [hW]
    unfold plainW
    simp only [Nat.min_def]
    repeat' split
    all_goals omega
  · rcases L with ⟨h1, -⟩ | ⟨q', c, h1, h2, h3, h4, h5⟩
    · rw [hq] at h1; cases h1
    · rw [hq] at h1; cases h1
      refine ⟨c, h2, by omega, by omega, ?_⟩
      rintro I1 rfl
      refine ⟨by omega, ?_⟩
      rintro I2 rfl
      have e1 : ∀ (b : Nat) (z1 z2 : Int32), b ≠ s + 8 → zU (zU I (s + 8) 0 z1) (s + 8) 1 z2 b = I b := fun b z1 z2 h => by rw [zU_off h, zU_off h]
      rw [e1 (a + 1) _ _ (by have := g.1; omega), e1 (a + 6) _ _ (by have := g.1; omega)]
      simp (disch := omega) only [c2, c5, tk_0, tk_1, tk_2, tk_3, tk_4, tk_5, tk_6, tk_7, tk_8, tk_9, tk_10, tk_11, tk_12, tk_13, tk_14, tk_15, tk_16, tk_20, tk_24, tk_25, tk_26, tk_27, tk_28, tk_29, tk_30, tk_31, tk_32, tk_40, tk_41, tk_45, tk_46, tk_47, tk_48, tk_49, tk_50, tk_51, tk_57, tk_60, tk_99, tk_100, tk_120, tk_128, tk_231, tk_240, tk_255, tk_500, tk_999, tk_9999, tk_10000, pk_mul, nI_add, tk_c, tk_in, tk_lt, tk_le, tk_eq, tk_and31, tk_shl1, tk_shr1, tk_and1, tk_or, tk_ite, tk_tb, tk_mn, tk_mx]
      refine ⟨by omega, by omega, by omega, ?_⟩
      rintro I3 rfl
      have F3 : Fr aNo R s I (zU (zU (zU I (s + 8) 0 (nI (T (3 * p + 2)))) (s + 8) 1 (nI (Y (2 * T (3 * p + 1) + 1)))) (s + 8) 2 (nI (T (29 + 3 * T (3 * p))))) := fun b _ h _ => by rw [zU_off h, zU_off h, zU_off h]
      have L0 : LW G R K n I s Wc := Or.inr ⟨q, c, hq, h2, h3, h4, h5⟩
      refine c_bare S (F3.vl L0 V (fun _ h => absurd h id) (by have := g.2.2.1; have := g.1; omega) g.2.2.2) W (F3.cs L0 C (fun _ h => absurd h id) g.1 g.2.1) O o3 ?_
      refine ⟨_, _, rfl, rfl, ?_⟩
      refine ⟨by omega, ?_⟩
      rintro I4 rfl
      refine ⟨by omega, ?_⟩
      rintro I5 rfl
      refine ⟨by omega, ?_⟩
      rintro I6 rfl
      rw [zU_off (b := a) (by have := g.1; omega), zU_off (b := a) (by have := g.1; omega), zU_off (b := a) (by have := g.1; omega), zU_off (b := a) (by have := g.1; omega), zU_off (b := a) (by have := g.1; omega), zU_off (b := a) (by have := g.1; omega), zU_off (b := a) (by have := g.1; omega), zU_off (b := a) (by have := g.1; omega), zU_off (b := a) (by have := g.1; omega), c7, c9]
      have e6 : ∀ b, b ≠ s + 8 → zU (zU (zU (zU (zU (zU I (s + 8) 0 (nI (T (3 * p + 2)))) (s + 8) 1 (nI (Y (2 * T (3 * p + 1) + 1)))) (s + 8) 2 (nI (T (29 + 3 * T (3 * p))))) (s + 8) 3 (nI (bareA Y T (T (3 * p + 1))))) (s + 8) 4 (nI (T 47))) (s + 8) 5 (nI (T 49)) b = I b := fun b h => by rw [zU_off h, zU_off h, zU_off h, zU_off h, zU_off h, zU_off h]
      have l6 : ∀ j, j < 6 → zU (zU (zU (zU (zU (zU I (s + 8) 0 (nI (T (3 * p + 2)))) (s + 8) 1 (nI (Y (2 * T (3 * p + 1) + 1)))) (s + 8) 2 (nI (T (29 + 3 * T (3 * p))))) (s + 8) 3 (nI (bareA Y T (T (3 * p + 1))))) (s + 8) 4 (nI (T 47))) (s + 8) 5 (nI (T 49)) (s + 8) j = lets (T (3 * p + 2)) (Y (2 * T (3 * p + 1) + 1)) (T (29 + 3 * T (3 * p))) (bareA Y T (T (3 * p + 1))) (T 47) (T 49) j := fun j hj => by
        unfold lets
        simp only [zU_a]
        obtain rfl | rfl | rfl | rfl | rfl | rfl : j = 0 ∨ j = 1 ∨ j = 2 ∨ j = 3 ∨ j = 4 ∨ j = 5 := by omega
        all_goals rfl
      revert e6 l6
      generalize zU (zU (zU (zU (zU (zU I (s + 8) 0 (nI (T (3 * p + 2)))) (s + 8) 1 (nI (Y (2 * T (3 * p + 1) + 1)))) (s + 8) 2 (nI (T (29 + 3 * T (3 * p))))) (s + 8) 3 (nI (bareA Y T (T (3 * p + 1))))) (s + 8) 4 (nI (T 47))) (s + 8) 5 (nI (T 49)) = I6
      intro e6 l6
      refine c_worth h2 (Set_4 (St_14 S)) (by omega) h3 ?_
      intro I7 h7
      refine ⟨_, _, rfl, rfl, ?_⟩
      have F7 : Fr aNo R s I I7 := fun b _ g1 g2 => by rw [h7 b (g2 q hq), e6 b g1]
      have C7 := F7.cs L0 C (fun _ h => absurd h id) g.1 g.2.1
      refine c_bare S (F7.vl L0 V (fun _ h => absurd h id) (by have := g.2.2.1; have := g.1; omega) g.2.2.2) W C7 O o3 ?_
      refine ⟨_, _, rfl, rfl, ?_⟩
      refine qI ?_ (hQ I7 F7)
      have c7' : I7 a 8 = nI (T 47) := C7.2.2.2.2.1
      have e8 : worthA (I6 (q + 1)) c (I6 (s + 8)) = worthA (I (q + 1)) c (lets (T (3 * p + 2)) (Y (2 * T (3 * p + 1) + 1)) (T (29 + 3 * T (3 * p))) (bareA Y T (T (3 * p + 1))) (T 47) (T 49)) := by
        rw [e6 (q + 1) (by omega)]
        exact runA_L l6 _ _ _
      rw [e8, c7']
      have e9 := clampN_eq (worthA (I (q + 1)) c (lets (T (3 * p + 2)) (Y (2 * T (3 * p + 1) + 1)) (T (29 + 3 * T (3 * p))) (bareA Y T (T (3 * p + 1))) (T 47) (T 49)))
      have e10 := e9.1
      unfold clampI at e10
      have e11 := e9.2
      unfold yardsA
      rw [h5]
      simp only [tk_40, tk_0] at e10 ⊢
      simp only [e10]
      simp (disch := omega) only [tk_0, tk_1, tk_2, tk_3, tk_4, tk_5, tk_6, tk_7, tk_8, tk_9, tk_10, tk_11, tk_12, tk_13, tk_14, tk_15, tk_16, tk_20, tk_24, tk_25, tk_26, tk_27, tk_28, tk_29, tk_30, tk_31, tk_32, tk_40, tk_41, tk_45, tk_46, tk_47, tk_48, tk_49, tk_50, tk_51, tk_57, tk_60, tk_99, tk_100, tk_120, tk_128, tk_231, tk_240, tk_255, tk_500, tk_999, tk_9999, tk_10000, pk_mul, nI_add, tk_c, tk_in, tk_lt, tk_le, tk_eq, tk_and31, tk_shl1, tk_shr1, tk_and1, tk_or, tk_ite, tk_tb, tk_mn, tk_mx]
end
