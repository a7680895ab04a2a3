/-! THE FACE: least, every: the class -/
theorem pop_or : ∀ i : Nat, i < 9 → ∀ s : Nat, s < 2 ^ i → pop10 (s ||| 2 ^ i) = pop10 s + 1 := by decide +kernel
theorem pop_mod : ∀ i : Nat, i < 10 → ∀ t : Nat, t < 512 → pop10 (t % 2 ^ i) ≤ pop10 t := by decide +kernel
theorem pop_le : ∀ t : Nat, t < 512 → pop10 t ≤ 9 := by decide +kernel
theorem mod_cases {t i s : Nat} (h : t % 2 ^ i = s) : (t.testBit i = false ∧ t % 2 ^ (i + 1) = s) ∨ (t.testBit i = true ∧ t % 2 ^ (i + 1) = s ||| 2 ^ i) := by
  have hs : s < 2 ^ i := by rw [← h]; exact Nat.mod_lt _ (Nat.two_pow_pos i)
  have e := Nat.mod_pow_succ (b := 2) (x := t) (k := i)
  rw [h] at e
  rw [tk_orp hs, Nat.testBit_eq_decide_div_mod_eq]
  have : t / 2 ^ i % 2 = 0 ∨ t / 2 ^ i % 2 = 1 := by omega
  rcases this with h2 | h2
  · rw [h2] at e ⊢
    exact Or.inl ⟨by decide, by omega⟩
  · rw [h2] at e ⊢
    exact Or.inr ⟨by decide, by omega⟩
theorem and_sub {a b : Nat} (ha : a < 512) : a &&& b = a ↔ ∀ p, p < 9 → a.testBit p = true → b.testBit p = true := by
  constructor
  · intro h p _ hp
    rw [← h, Nat.testBit_and, Bool.and_eq_true] at hp
    exact hp.2
  · intro h
    apply Nat.eq_of_testBit_eq
    intro p
    rw [Nat.testBit_and]
    by_cases hp : p < 9
    · have := h p hp
      cases h1 : a.testBit p
      · rfl
      · rw [this h1]; rfl
    · rw [Nat.testBit_lt_two_pow (Nat.lt_of_lt_of_le ha (Nat.pow_le_pow_right (n := 2) (i := 9) (by decide) (by omega)))]
      rfl
/-- the sets that may be and that make white -/
def whP (Wc : Nat → Nat → Nat → Nat → Nat → Nat → Nat) (nf : Nat) (Y T : Nat → Nat) (A F t : Nat) : Bool := decide (t &&& A = t) && decide (whitesA nf Y (pntF Wc Y t T 9).1 &&& F = F)
def kyO : Option Nat → Nat
  | none => 6000
  | some s => pop10 s * 512 + s
/-- the first of the smallest -/
def fewF (P : Nat → Bool) : Nat → Option Nat
  | 0 => none
  | i + 1 => if P i = true ∧ kyO (some i) < kyO (fewF P i) then some i else fewF P i
theorem fewF_in {P : Nat → Bool} : ∀ {i s : Nat}, fewF P i = some s → s < i ∧ P s = true
  | 0, s, h => by rw [fewF] at h; exact absurd h (by simp)
  | i + 1, s, h => by
    rw [fewF] at h
    split at h
    · rename_i h1
      obtain rfl : i = s := by injection h
      exact ⟨by omega, h1.1⟩
    · have := fewF_in h
      exact ⟨by omega, this.2⟩
theorem fewF_le {P : Nat → Bool} : ∀ {i t : Nat}, t < i → P t = true → kyO (fewF P i) ≤ kyO (some t)
  | 0, t, h, _ => absurd h (by omega)
  | i + 1, t, h, hP => by
    rw [fewF]
    by_cases e : t = i
    · subst e
      split
      · exact Nat.le_refl _
      · rename_i h1
        have : ¬ kyO (some t) < kyO (fewF P t) := fun h2 => h1 ⟨hP, h2⟩
        omega
    · have ih := fewF_le (show t < i by omega) hP
      split
      · rename_i h1
        omega
      · exact ih
theorem few_uniq {P : Nat → Bool} {b : Option Nat} (h1 : ∀ s, b = some s → s < 512 ∧ P s = true) (h2 : ∀ t, t < 512 → P t = true → kyO b ≤ kyO (some t)) : b = fewF P 512 := by
  cases hb : b with
  | none =>
    cases hf : fewF P 512 with
    | none => rfl
    | some t =>
      obtain ⟨t1, t2⟩ := fewF_in hf
      have := h2 t t1 t2
      have l := pop_le t t1
      rw [hb] at this
      simp only [kyO] at this
      omega
  | some s =>
    obtain ⟨s1, s2⟩ := h1 s hb
    have a := fewF_le s1 s2
    cases hf : fewF P 512 with
    | none =>
      rw [hf] at a
      have l := pop_le s s1
      simp only [kyO] at a
      omega
    | some t =>
      obtain ⟨t1, t2⟩ := fewF_in hf
      have c := h2 t t1 t2
      rw [hb] at c
      rw [hf] at a
      simp only [kyO] at a c
      rw [show s = t by omega]
def kyA (k : Nat) : Option Nat → Int32
  | none => -1
  | some s => if k = 0 then nI s else nI (pop10 s)
/-- the cells of the best -/
def bstW (I : Nat → Nat → Int32) (e : Nat) (b : Option Nat) : Prop := (∀ s, b = some s → s < 512) ∧ I e 0 = kyA 0 b ∧ I e 1 = kyA 1 b
/-- what a search from i on behind the set s leaves -/
def nxtW (P : Nat → Bool) (i s : Nat) (b0 b1 : Option Nat) : Prop := (b1 = b0 ∨ ∃ t, b1 = some t ∧ t < 512 ∧ P t = true) ∧ kyO b1 ≤ kyO b0 ∧ ∀ t, t < 512 → P t = true → t % 2 ^ i = s → kyO b1 ≤ kyO (some t)
section
variable {G : zG} {d : Nat} {I : Nat → Nat → Int32} {J : Nat → Nat → Int64} {R : Nat → Nat → Option Nat} {K : Nat → Nat × Nat} {n : Nat} {x m v w q nx lo M t c : Nat} {lk sq : Nat → Nat} {tl : Nat → Nat} {tt : Nat → Nat → Nat} {vl : Vt} {st : Stt} {tp : Tpt} {lw : Lwt} {sp : Spt} {ap : Nat} {sg : Sgt} {B B1 : Nat} {p p1 p2 : Int32} {T : Nat → Nat} {I1 : Nat → Nat → Int32} {Q : Option Value → zH → Prop}
theorem c_tryC (C : CIv G I R K n x m v w q nx lo M lk sq vl st tp lw sp ap sg B) {A F j i s : Nat} {b0 : Option Nat} {I3 : Nat → Nat → Int32} (hF : F < 64) (hB : B + 20 < 100000) (hi : i + j = 9) (hs : s < 2 ^ i) (ho : ∀ p, p < 9 → s.testBit p = true → 0 < st.1 (3 * p + 2)) (hsA : s &&& A = s) (h3 : ∀ b k, ¬ scr x w q nx lk lw.1 b k → I3 b k = I b k) (e3 : I3 (x + 80) 3 = nI A) (e4 : I3 (x + 80) 4 = nI F) (eb : bstW I3 (x + 80) b0) (cs3 : CS I3 (x + 20) (pntF (aW lw) vl.2.1 s st.1 9).1) (hQ : ∀ I' b1, (∀ b k, ¬ scr x w q nx lk lw.1 b k → I' b k = I b k) → I' (x + 80) 3 = nI A → I' (x + 80) 4 = nI F → bstW I' (x + 80) b1 → nxtW (whP (aW lw) vl.1 vl.2.1 st.1 A F) i s b0 b1 → CS I' (x + 20) (pntF (aW lw) vl.2.1 s st.1 9).1 → Q none (I', J, R, K, n)) (L : whP (aW lw) vl.1 vl.2.1 st.1 A F s = false → zV G (d + j + 5) mX4_tryWhite 0 0 74 [(0, .ref (x + 80)), (1, .int (nI i)), (2, .int (nI s)), (3, .int (nI (pop10 s))), (4, .int (nI i))] [] (I3, J, R, K, n) Q) : zC G (d + j + 5) mX4_tryWhite 0 0 [.ref (x + 80), .int (nI i), .int (nI s), .int (nI (pop10 s))] (I3, J, R, K, n) Q := by
  have h6 := C.okv.1.1
  have C3 := C.same h3
  have s5 : s < 512 := Nat.lt_of_lt_of_le hs (Nat.pow_le_pow_right (n := 2) (j := 9) (by decide) (by omega))
  have sp9 := pop_le s s5
  have ok3 : okT (B + 9) vl.1 vl.2.1 (pntF (aW lw) vl.2.1 s st.1 9).1 := pntF_ok C.oks.1 C.okv.1 (by omega) ho 9 (by omega)
  have wl : whitesA vl.1 vl.2.1 (pntF (aW lw) vl.2.1 s st.1 9).1 < 1024 := bitsA_small _ (by omega)
  have klow : ∀ t, t < 512 → t % 2 ^ i = s → kyO (some s) ≤ kyO (some t) := fun t ht h => by
    have a := pop_mod i (by omega) t ht
    have c := Nat.mod_le t (2 ^ i)
    rw [h] at a c
    simp only [kyO]
    omega
  have wput : ∀ I6 I7 : Nat → Nat → Int32, I6 = zU I3 (x + 80) 1 (nI (pop10 s)) → I7 = zU I6 (x + 80) 0 (nI s) → whP (aW lw) vl.1 vl.2.1 st.1 A F s = true → kyO (some s) ≤ kyO b0 → Q none (I7, J, R, K, n) := by
    intro I6 I7 q6 q7 hw hk
    refine hQ I7 (some s) (fun b y hb => ?_) ?_ ?_ ⟨fun s' h => by injection h with h; omega, ?_, ?_⟩ ⟨Or.inr ⟨s, rfl, s5, hw⟩, hk, fun t ht _ hm => klow t ht hm⟩ ?_
    · rw [q7, zU_off (fun e => hb (by unfold scr; omega)), q6, zU_off (fun e => hb (by unfold scr; omega))]
      exact h3 b y hb
    · rw [q7, zU_ne (by omega), q6, zU_ne (by omega), e3]
    · rw [q7, zU_ne (by omega), q6, zU_ne (by omega), e4]
    · rw [q7, zU_self]; rfl
    · rw [q7, zU_ne (by omega), q6, zU_self]; rfl
    · exact cs3.same (fun b b1 b2 => by rw [q7, zU_off (by omega), q6, zU_off (by omega)])
  have wkeep : kyO b0 ≤ kyO (some s) → Q none (I3, J, R, K, n) := fun hk => hQ I3 b0 h3 e3 e4 eb ⟨Or.inl rfl, Nat.le_refl _, fun t ht _ hm => Nat.le_trans hk (klow t ht hm)⟩ cs3
  obtain ⟨eb1, eb2, eb3⟩ := eb
  have wtest : ∀ (x2 : Int32), x2 = nI (whitesA vl.1 vl.2.1 (pntF (aW lw) vl.2.1 s st.1 9).1) → ((x2 &&& I3 (x + 80) 4 : Int32) = I3 (x + 80) 4 ↔ whP (aW lw) vl.1 vl.2.1 st.1 A F s = true) := by
    intro x2 hx
    rw [hx, e4, tk_and, tk_eq (Nat.lt_of_le_of_lt Nat.and_le_left (by omega)) (by omega)]
    unfold whP
    rw [decide_eq_true hsA, Bool.true_and, decide_eq_true_iff]
  refine zC.of (by decide) (Nat.le_of_ble_eq_true rfl) ?_
  refine wX4_tryWhite_0 (x + 80) (x + 20) (x + 3) v (X_11 C.X) _ _ _ ?_
  cases b0 with
  | none =>
    have e1 : I3 (x + 80) 1 = -1 := eb3
    refine ⟨fun _ => ?_, fun h => absurd e1 h⟩
    refine c_whites (X_7 C.X) C3.cv.1 C.okv.1 cs3 ok3 ?_
    refine ⟨_, _, rfl, rfl, ?_⟩
    rw [wtest _ rfl]
    refine ⟨fun hw => ⟨fun _ I6 q6 I7 q7 => wput I6 I7 q6 q7 hw (by simp only [kyO]; omega), fun h => absurd e1 h⟩, fun hw => L (by simpa using hw)⟩
  | some s0 =>
    have s05 := eb1 s0 rfl
    have sp0 := pop_le s0 s05
    have e1 : I3 (x + 80) 1 = nI (pop10 s0) := eb3
    have e0 : I3 (x + 80) 0 = nI s0 := eb2
    have em : ¬ I3 (x + 80) 1 = -1 := by rw [e1, tk_m1 (by omega)]; exact not_false
    refine ⟨fun h => absurd h em, fun _ => ⟨fun hc => ?_, fun hc => ?_⟩⟩
    · rw [e1, tk_le (by omega) (by omega)] at hc
      refine c_whites (X_7 C.X) C3.cv.1 C.okv.1 cs3 ok3 ?_
      refine ⟨_, _, rfl, rfl, ?_⟩
      rw [wtest _ rfl]
      refine ⟨fun hw => ⟨fun h => absurd h em, fun _ => ?_⟩, fun hw => L (by simpa using hw)⟩
      rw [e1, tk_lt (by omega) (by omega), e0, tk_le (by omega) (by omega)]
      refine ⟨fun h I6 q6 I7 q7 => wput I6 I7 q6 q7 hw (by simp only [kyO]; omega), fun h => ⟨fun h2 => wkeep (by simp only [kyO]; omega), fun h2 I6 q6 I7 q7 => wput I6 I7 q6 q7 hw (by simp only [kyO]; omega)⟩⟩
    · rw [e1, tk_le (by omega) (by omega)] at hc
      exact wkeep (by simp only [kyO]; omega)
theorem c_tryL (C : CIv G I R K n x m v w q nx lo M lk sq vl st tp lw sp ap sg B) {A F : Nat} (hA : A < 512) (hAo : ∀ p, p < 9 → A.testBit p = true → 0 < st.1 (3 * p + 2)) (hF : F < 64) (hB : B + 20 < 100000) : ∀ (j D i s l1 : Nat) (b0 : Option Nat) (I2 : Nat → Nat → Int32) (Q : Option Value → zH → Prop), i + j = 9 → s < 2 ^ i → s &&& A = s → (∀ b k, ¬ scr x w q nx lk lw.1 b k → I2 b k = I b k) → I2 (x + 80) 3 = nI A → I2 (x + 80) 4 = nI F → bstW I2 (x + 80) b0 → CS I2 (x + 20) (pntF (aW lw) vl.2.1 s st.1 9).1 → whP (aW lw) vl.1 vl.2.1 st.1 A F s = false → (∀ I' b1, (∀ b k, ¬ scr x w q nx lk lw.1 b k → I' b k = I b k) → I' (x + 80) 3 = nI A → I' (x + 80) 4 = nI F → bstW I' (x + 80) b1 → nxtW (whP (aW lw) vl.1 vl.2.1 st.1 A F) i s b0 b1 → CS I' (x + 20) (pntF (aW lw) vl.2.1 s st.1 9).1 → Q none (I', J, R, K, n)) → zV G (D + j + 5) mX4_tryWhite 0 0 74 [(0, .ref (x + 80)), (1, .int (nI l1)), (2, .int (nI s)), (3, .int (nI (pop10 s))), (4, .int (nI i))] [] (I2, J, R, K, n) Q := by
  have h6 := C.okv.1.1
  intro j
  induction j with
  | zero =>
    intro D i s l1 b0 I2 Q hi hs hsA h2 e3 e4 eb cs hw hQ
    obtain rfl : i = 9 := by omega
    refine wX4_tryWhite_74 (x + 80) (x + 20) (x + 3) v (X_11 C.X) _ _ _ _ ⟨fun _ => ?_, fun h => absurd (by decide) h⟩
    refine hQ I2 b0 h2 e3 e4 eb ⟨Or.inl rfl, Nat.le_refl _, fun t ht hP hm => ?_⟩ cs
    rw [Nat.mod_eq_of_lt (show t < 2 ^ 9 from ht)] at hm
    rw [hm, hw] at hP
    exact absurd hP (by decide)
  | succ j ih =>
    intro D i s l1 b0 I2 Q hi hs hsA h2 e3 e4 eb cs hw hQ
    have C2 := C.same h2
    have s5 : s < 512 := Nat.lt_of_lt_of_le hs (Nat.pow_le_pow_right (n := 2) (j := 9) (by decide) (by omega))
    have hs2 : s < 2 ^ (i + 1) := Nat.lt_of_lt_of_le hs (Nat.pow_le_pow_right (by decide) (by omega))
    have ho : ∀ p, p < 9 → s.testBit p = true → 0 < st.1 (3 * p + 2) := fun p hp h => hAo p hp ((and_sub s5).mp hsA p hp h)
    have ok : okT (B + 9) vl.1 vl.2.1 (pntF (aW lw) vl.2.1 s st.1 9).1 := pntF_ok C.oks.1 C.okv.1 (by omega) ho 9 (by omega)
    refine wX4_tryWhite_74 (x + 80) (x + 20) (x + 3) v (X_11 C.X) _ _ _ _ ⟨fun h => ?_, fun _ => ?_⟩
    · rw [show (9 : Int32) = nI 9 from rfl, tk_le (by omega) (by omega)] at h
      omega
    rw [e3, tk_bit (by omega) (by omega), nI_1, nI_1]
    refine ⟨fun hb => ?_, fun hb => ?_⟩
    · have lo : 0 < (pntF (aW lw) vl.2.1 s st.1 9).1 (3 * i + 2) := by rw [pntF_low (by omega)]; exact hAo i (by omega) hb
      have ea := pntF_add (Wc := aW lw) (Y := vl.2.1) (T := st.1) hs (show i < 9 by omega)
      have o5 : s ||| 2 ^ i < 512 := Nat.lt_of_lt_of_le (or_lt hs) (Nat.pow_le_pow_right (n := 2) (j := 9) (by decide) (by omega))
      have oA : (s ||| 2 ^ i) &&& A = s ||| 2 ^ i := by
        rw [and_sub o5]
        intro p hp h
        rw [or_bit, Bool.or_eq_true, decide_eq_true_iff] at h
        rcases h with h | rfl
        · exact (and_sub s5).mp hsA p hp h
        · exact hb
      have oo : ∀ p, p < 9 → (s ||| 2 ^ i).testBit p = true → 0 < st.1 (3 * p + 2) := fun p hp h => hAo p hp ((and_sub o5).mp oA p hp h)
      refine c_paintOff (X_7 C.X) C2.g2 C2.cv.1 C.okv.1 cs ok C2.lwh (p := i) (by omega) lo ?_
      intro I3 cs3 F3
      refine ⟨_, _, rfl, rfl, ?_⟩
      have h3 : ∀ b k, ¬ scr x w q nx lk lw.1 b k → I3 b k = I b k := fun b y hb => by rw [C2.fr F3 (fun h => hb (by unfold aSt at h; unfold scr; omega)) hb]; exact h2 b y hb
      have k3 : I3 (x + 80) = I2 (x + 80) := F3.low C2.lwh (by unfold aSt; omega) (by omega) (by omega)
      rw [tk_shl i (by omega), tk_or, ← pop_or i (by omega) s hs]
      have eb3 : bstW I3 (x + 80) b0 := by unfold bstW; rw [k3]; exact eb
      have cs3' : CS I3 (x + 20) (pntF (aW lw) vl.2.1 (s ||| 2 ^ i) st.1 9).1 := by rw [ea]; exact cs3
      have fin : ∀ I4 b1, (∀ b k, ¬ scr x w q nx lk lw.1 b k → I4 b k = I b k) → I4 (x + 80) 3 = nI A → I4 (x + 80) 4 = nI F → bstW I4 (x + 80) b1 → nxtW (whP (aW lw) vl.1 vl.2.1 st.1 A F) (i + 1) (s ||| 2 ^ i) b0 b1 → CS I4 (x + 20) (pntF (aW lw) vl.2.1 (s ||| 2 ^ i) st.1 9).1 → ∃ I31 : Nat → Nat → Int32, (none : Option Value) = none ∧ (I4, J, R, K, n) = (I31, J, R, K, n) ∧ zC G (D + (j + 1) + 4) mX8_scrapeOff 0 0 [.ref (x + 20), .int (nI i), .int (nI (yardsA (aW lw) vl.2.1 (pntF (aW lw) vl.2.1 s st.1 9).1 i))] (I31, J, R, K, n) (fun r h => ∃ I32 : Nat → Nat → Int32, r = none ∧ h = (I32, J, R, K, n) ∧ zV G (D + (j + 1) + 4 + 1) mX4_tryWhite 0 0 74 [(0, .ref (x + 80)), (1, .int (nI l1)), (2, .int (nI s)), (3, .int (nI (pop10 s))), (4, .int (nI (i + 1)))] [] (I32, J, R, K, n) Q) := by
        intro I4 b1 h4 f3 f4 fb nx4 cs4
        refine ⟨_, rfl, rfl, ?_⟩
        rw [ea] at cs4
        have C4 := C.same h4
        refine c_scrapeOff (X_7 C.X) C.okv.1 cs4 ok (p := i) (by omega) lo ?_
        intro I5 cs5 F5
        refine ⟨_, rfl, rfl, ?_⟩
        have h5 : ∀ b k, ¬ scr x w q nx lk lw.1 b k → I5 b k = I b k := fun b y hb => by rw [C4.fr F5 (fun h => hb (by unfold aSt at h; unfold scr; omega)) hb]; exact h4 b y hb
        have k5 : I5 (x + 80) = I4 (x + 80) := F5.low C4.lwh (by unfold aSt; omega) (by omega) (by omega)
        have step : ∀ b2, nxtW (whP (aW lw) vl.1 vl.2.1 st.1 A F) (i + 1) s b1 b2 → nxtW (whP (aW lw) vl.1 vl.2.1 st.1 A F) i s b0 b2 := by
          intro b2 nx5
          refine ⟨?_, Nat.le_trans nx5.2.1 nx4.2.1, fun t ht hP hm => ?_⟩
          · rcases nx5.1 with h | h
            · rw [h]; exact nx4.1
            · exact Or.inr h
          · rcases mod_cases hm with ⟨-, e⟩ | ⟨-, e⟩
            · exact nx5.2.2 t ht hP e
            · exact Nat.le_trans nx5.2.1 (nx4.2.2 t ht hP e)
        rw [show D + (j + 1) + 4 + 1 = D + 1 + j + 5 by omega]
        exact ih (D + 1) (i + 1) s l1 b1 I5 Q (by omega) hs2 hsA h5 (by rw [k5]; exact f3) (by rw [k5]; exact f4) (by unfold bstW; rw [k5]; exact fb) cs5 hw (fun I' b2 g1 g2 g3 g4 g5 g6 => hQ I' b2 g1 g2 g3 g4 (step b2 g5) g6)
      exact c_tryC (d := D) (j := j) C hF hB (by omega) (or_lt hs) oo oA h3 (by rw [k3]; exact e3) (by rw [k3]; exact e4) eb3 cs3' fin (fun hw' => ih D (i + 1) (s ||| 2 ^ i) (i + 1) b0 I3 _ (by omega) (or_lt hs) oA h3 (by rw [k3]; exact e3) (by rw [k3]; exact e4) eb3 cs3' hw' fin)
    · rw [show D + (j + 1) + 4 + 1 = D + 1 + j + 5 by omega]
      refine ih (D + 1) (i + 1) s l1 b0 I2 Q (by omega) hs2 hsA h2 e3 e4 eb cs hw (fun I' b1 g1 g2 g3 g4 g5 g6 => hQ I' b1 g1 g2 g3 g4 ⟨g5.1, g5.2.1, fun t ht hP hm => ?_⟩ g6)
      rcases mod_cases hm with ⟨-, e⟩ | ⟨e, -⟩
      · exact g5.2.2 t ht hP e
      · have hP2 := hP
        unfold whP at hP2
        rw [Bool.and_eq_true, decide_eq_true_iff] at hP2
        exact absurd ((and_sub ht).mp hP2.1 i (by omega) e) hb
theorem c_whiten (C : CIv G I R K n x m v w q nx lo M lk sq vl st tp lw sp ap sg B) {A F : Nat} (hA : A < 512) (hAo : ∀ p, p < 9 → A.testBit p = true → 0 < st.1 (3 * p + 2)) (hF : F < 64) (hB : B + 20 < 100000) {I2 : Nat → Nat → Int32} (h2 : ∀ b k, ¬ scr x w q nx lk lw.1 b k → I2 b k = I b k) (cs : CS I2 (x + 20) st.1) (hQ : ∀ I', (∀ b k, ¬ scr x w q nx lk lw.1 b k → I' b k = I b k) → I' (x + 80) 0 = kyA 0 (fewF (whP (aW lw) vl.1 vl.2.1 st.1 A F) 512) → I' (x + 80) 1 = kyA 1 (fewF (whP (aW lw) vl.1 vl.2.1 st.1 A F) 512) → Q none (I', J, R, K, n)) : zC G (d + 15) mX4_whiten 0 0 [.ref (x + 80), .int (nI A), .int (nI F)] (I2, J, R, K, n) Q := by
  have e0 : (pntF (aW lw) vl.2.1 0 st.1 9).1 = st.1 := by
    have := pntF_cut (Wc := aW lw) (Y := vl.2.1) (T := st.1) (s := 0) (i := 0) (by decide) 9
    rw [show 0 + 9 = 9 from rfl] at this
    rw [this]
    rfl
  have ho : ∀ p, p < 9 → (0 : Nat).testBit p = true → 0 < st.1 (3 * p + 2) := fun p _ h => by rw [Nat.zero_testBit] at h; exact absurd h (by decide)
  refine zC.of (by decide) (Nat.le_of_ble_eq_true rfl) ?_
  refine wX4_whiten_0 (x + 80) (x + 20) (x + 3) v (X_11 C.X) _ _ ?_
  intro J1 q1 J2 q2 J3 q3 J4 q4
  have h4 : ∀ b k, ¬ scr x w q nx lk lw.1 b k → J4 b k = I b k := fun b y hb => by
    have ne : ¬ b = x + 80 := fun e => hb (by unfold scr; omega)
    rw [q4, zU_off ne, q3, zU_off ne, q2, zU_off ne, q1, zU_off ne]
    exact h2 b y hb
  have c4 : CS J4 (x + 20) (pntF (aW lw) vl.2.1 0 st.1 9).1 := by
    rw [e0]
    exact cs.same (fun b b1 b2 => by rw [q4, zU_off (by omega), q3, zU_off (by omega), q2, zU_off (by omega), q1, zU_off (by omega)])
  have f3 : J4 (x + 80) 3 = nI A := by rw [q4, zU_ne (by omega), q3, zU_self]
  have f4 : J4 (x + 80) 4 = nI F := by rw [q4, zU_self]
  have fb : bstW J4 (x + 80) none := ⟨fun s h => absurd h (by simp), by rw [q4, zU_ne (by omega), q3, zU_ne (by omega), q2, zU_ne (by omega), q1, zU_self]; rfl, by rw [q4, zU_ne (by omega), q3, zU_ne (by omega), q2, zU_self]; rfl⟩
  have fin : ∀ I' b1, (∀ b k, ¬ scr x w q nx lk lw.1 b k → I' b k = I b k) → I' (x + 80) 3 = nI A → I' (x + 80) 4 = nI F → bstW I' (x + 80) b1 → nxtW (whP (aW lw) vl.1 vl.2.1 st.1 A F) 0 0 none b1 → CS I' (x + 20) (pntF (aW lw) vl.2.1 0 st.1 9).1 → ∃ I5 : Nat → Nat → Int32, (none : Option Value) = none ∧ (I', J, R, K, n) = (I5, J, R, K, n) ∧ Q none (I5, J, R, K, n) := by
    intro I' b1 g1 _ _ g4 g5 _
    have e : b1 = fewF (whP (aW lw) vl.1 vl.2.1 st.1 A F) 512 := few_uniq (fun s hs => by
      rcases g5.1 with h | ⟨t, h, h5, hP⟩
      · rw [hs] at h; exact absurd h (by simp)
      · rw [hs] at h
        injection h with h
        subst h
        exact ⟨h5, hP⟩) (fun t ht hP => g5.2.2 t ht hP (Nat.mod_one t))
    subst e
    exact ⟨_, rfl, rfl, hQ I' g1 g4.2.1 g4.2.2⟩
  exact c_tryC (d := d) (j := 9) (i := 0) (s := 0) C hF hB (by omega) (by decide) ho (Nat.zero_and A) h4 f3 f4 fb c4 fin (fun hw => c_tryL C hA hAo hF hB 9 d 0 0 0 none J4 _ (by omega) (by decide) (Nat.zero_and A) h4 f3 f4 fb c4 hw fin)
theorem x_least_y (C : CIv G I R K n x m v w q nx lo M lk sq vl st tp lw sp ap sg B) {f k : Nat} (hf : f < vl.1) (hk : k < 2) (hB : B + 20 < 100000) : XC G (d + 16) mX11_least [.ref x, .int (nI f), .int (nI k)] I J R K n x m (kyA k (fewF (whP (aW lw) vl.1 vl.2.1 st.1 (toA st.1 f) (2 ^ f)) 512)) vl st tp lw sp ap sg B := by
  intro Q hQ
  have h6 := C.okv.1.1
  refine zC.of (by decide) (Nat.le_of_ble_eq_true rfl) ?_
  refine wX11_least_0 x v w q C.X _ _ ?_
  refine c_xf_y C hf ?_
  refine ⟨_, _, rfl, rfl, ?_⟩
  refine ⟨fun h => absurd h (by decide), fun _ => ⟨fun h => absurd h (nI_pos (by omega)), fun _ => ⟨fun _ => ?_, fun h => absurd ((tk_le (b := 1) (by omega) (by omega)).mpr (by omega)) h⟩⟩⟩
  refine c_copyFrom (X_7 C.X) (X_5 C.X) C.cs (by omega) ?_
  intro I2 cs2 f2
  refine ⟨_, rfl, rfl, ?_⟩
  have h2 : ∀ b k, ¬ scr x w q nx lk lw.1 b k → I2 b k = I b k := fun b k hb => by rw [f2 b (fun h => hb (by unfold scr; omega))]
  refine c_doneTo (X_7 C.X) C.okv.1 cs2 C.oks.1 (f := f) (by omega) ?_
  refine ⟨_, _, rfl, rfl, ?_⟩
  rw [tk_shl f (by omega)]
  refine c_whiten (A := toA st.1 f) C (bits_9 _ (by omega)) (fun p hp h => ?_) (Nat.lt_of_le_of_lt (Nat.pow_le_pow_right (n := 2) (j := 5) (by decide) (by omega)) (by decide)) hB h2 cs2 ?_
  · unfold toA at h
    rw [bitsA_bit, openA] at h
    simp at h
    exact h.2.1
  intro I' h' e0 e1
  refine ⟨_, rfl, rfl, qI ?_ (hQ I' v w q nx lo M lk sq (C.same h') (C.mid h'))⟩
  by_cases h : k = 0
  · rw [if_pos (by rw [h]; rfl), e0, h]
  · obtain rfl : k = 1 := by omega
    rw [if_neg (by decide), e1]
theorem x_least_n (C : CIv G I R K n x m v w q nx lo M lk sq vl st tp lw sp ap sg B) (hn : ¬ ∃ f k : Nat, f < vl.1 ∧ k < 2 ∧ p1 = nI f ∧ p2 = nI k) : XC G (d + 3) mX11_least [.ref x, .int p1, .int p2] I J R K n x m (-1) vl st tp lw sp ap sg B := by
  intro Q hQ
  replace hQ := hQ I v w q nx lo M lk sq C (fun _ _ _ => rfl)
  have h6 := C.okv.1.1
  refine zC.of (by decide) (Nat.le_of_ble_eq_true rfl) ?_
  refine wX11_least_0 x v w q C.X _ _ ?_
  rcases bad_or (N := vl.1) (by omega) p1 with h | ⟨f, hf, rfl⟩
  · refine c_xf_n C h ?_
    refine ⟨_, _, rfl, rfl, ?_⟩
    exact ⟨fun _ => hQ, fun h => absurd rfl h⟩
  refine c_xf_y C hf ?_
  refine ⟨_, _, rfl, rfl, ?_⟩
  refine ⟨fun h => absurd h (by decide), fun _ => ⟨fun _ => hQ, fun h1 => ⟨fun h2 => ?_, fun _ => hQ⟩⟩⟩
  obtain ⟨c, hc, rfl⟩ := in3 (N := 1) (by decide) h1 h2
  exact absurd ⟨f, c, hf, hc, rfl, rfl⟩ hn
theorem x_every_y (C : CIv G I R K n x m v w q nx lo M lk sq vl st tp lw sp ap sg B) {k : Nat} (hv : 0 < vl.1) (hk : k < 2) (hB : B + 20 < 100000) : XC G (d + 16) mX11_every [.ref x, .int (nI k)] I J R K n x m (kyA k (fewF (whP (aW lw) vl.1 vl.2.1 st.1 (opensA st.1) (2 ^ vl.1 - 1)) 512)) vl st tp lw sp ap sg B := by
  intro Q hQ
  have h6 := C.okv.1.1
  refine zC.of (by decide) (Nat.le_of_ble_eq_true rfl) ?_
  refine wX11_every_0 x v w q C.X _ ?_
  refine c_hasV_y C hv ?_
  refine ⟨_, _, rfl, rfl, ?_⟩
  refine ⟨fun h => absurd h (by decide), fun _ => ⟨fun h => absurd h (nI_pos (by omega)), fun _ => ⟨fun _ => ?_, fun h => absurd ((tk_le (b := 1) (by omega) (by omega)).mpr (by omega)) h⟩⟩⟩
  refine c_copyFrom (X_7 C.X) (X_5 C.X) C.cs (by omega) ?_
  intro I2 cs2 f2
  refine ⟨_, rfl, rfl, ?_⟩
  have h2 : ∀ b k, ¬ scr x w q nx lk lw.1 b k → I2 b k = I b k := fun b k hb => by rw [f2 b (fun h => hb (by unfold scr; omega))]
  refine c_opens (X_7 C.X) cs2 C.oks.1 ?_
  refine ⟨_, _, rfl, rfl, ?_⟩
  have p1 : 1 ≤ 2 ^ vl.1 := Nat.one_le_two_pow
  have p2 : 2 ^ vl.1 ≤ 64 := Nat.pow_le_pow_right (n := 2) (j := 6) (by decide) h6
  rw [(C.same h2).cv.1.1, tk_shl vl.1 (by omega), show (1 : Int32) = nI 1 from rfl, tk_sub p1]
  refine c_whiten (A := opensA st.1) C (bits_9 _ (by omega)) (fun p hp h => ?_) (by omega) hB h2 cs2 ?_
  · unfold opensA at h
    rw [bitsA_bit, openA] at h
    simp at h
    exact h.2
  intro I' h' e0 e1
  refine ⟨_, rfl, rfl, qI ?_ (hQ I' v w q nx lo M lk sq (C.same h') (C.mid h'))⟩
  by_cases h : k = 0
  · rw [if_pos (by rw [h]; rfl), e0, h]
  · obtain rfl : k = 1 := by omega
    rw [if_neg (by decide), e1]
theorem x_every_n (C : CIv G I R K n x m v w q nx lo M lk sq vl st tp lw sp ap sg B) (hn : ¬ (0 < vl.1 ∧ ∃ k : Nat, k < 2 ∧ p1 = nI k)) : XC G (d + 3) mX11_every [.ref x, .int p1] I J R K n x m (-1) vl st tp lw sp ap sg B := by
  intro Q hQ
  replace hQ := hQ I v w q nx lo M lk sq C (fun _ _ _ => rfl)
  have h6 := C.okv.1.1
  refine zC.of (by decide) (Nat.le_of_ble_eq_true rfl) ?_
  refine wX11_every_0 x v w q C.X _ ?_
  by_cases hv : 0 < vl.1
  · refine c_hasV_y C hv ?_
    refine ⟨_, _, rfl, rfl, ?_⟩
    refine ⟨fun h => absurd h (by decide), fun _ => ⟨fun _ => hQ, fun h1 => ⟨fun h2 => ?_, fun _ => hQ⟩⟩⟩
    obtain ⟨c, hc, rfl⟩ := in3 (N := 1) (by decide) h1 h2
    exact absurd ⟨hv, c, hc, rfl⟩ hn
  · refine c_hasV_n C hv ?_
    refine ⟨_, _, rfl, rfl, ?_⟩
    exact ⟨fun _ => hQ, fun h => absurd rfl h⟩
end
