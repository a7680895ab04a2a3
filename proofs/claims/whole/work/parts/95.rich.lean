/-! THE FACE: richest: the class -/
theorem pop_more : ∀ i : Nat, i < 10 → ∀ t : Nat, t < 512 → t % 2 ^ i = t ∨ pop10 (t % 2 ^ i) < pop10 t := by decide +kernel
def kyR (g : Nat → Nat) (s : Nat) : Nat := (9000 - g s) * 8192 + pop10 s * 512 + s
/-- the first of the smallest of those of most yards -/
def ricF (g : Nat → Nat) (P : Nat → Bool) : Nat → Nat
  | 0 => 0
  | i + 1 => if P i = true ∧ kyR g i < kyR g (ricF g P i) then i else ricF g P i
theorem ricF_in {g : Nat → Nat} {P : Nat → Bool} (h0 : P 0 = true) : ∀ i : Nat, ricF g P i < i + 1 ∧ P (ricF g P i) = true
  | 0 => ⟨by rw [ricF]; decide, h0⟩
  | i + 1 => by
    rw [ricF]
    have := ricF_in h0 (g := g) i
    split
    · rename_i h1
      exact ⟨by omega, h1.1⟩
    · exact ⟨by omega, this.2⟩
theorem ricF_le {g : Nat → Nat} {P : Nat → Bool} : ∀ {i t : Nat}, t < i → P t = true → kyR g (ricF g P i) ≤ kyR g t
  | 0, t, h, _ => absurd h (by omega)
  | i + 1, t, h, hP => by
    rw [ricF]
    by_cases e : t = i
    · subst e
      split
      · exact Nat.le_refl _
      · rename_i h1
        have : ¬ kyR g t < kyR g (ricF g P t) := fun h2 => h1 ⟨hP, h2⟩
        omega
    · have ih := ricF_le (g := g) (show t < i by omega) hP
      split
      · rename_i h1
        omega
      · exact ih
theorem ric_lt {g : Nat → Nat} {P : Nat → Bool} (h0 : P 0 = true) : ∀ i, i ≤ 512 → ricF g P i < 512
  | 0, _ => by rw [ricF]; decide
  | i + 1, hi => by
    rw [ricF]
    split
    · omega
    · exact ric_lt h0 i (by omega)
theorem ric_small {g : Nat → Nat} {P : Nat → Bool} : ∀ i, ricF g P (i + 1) < i + 1
  | 0 => by
    rw [ricF, if_neg (fun h => by have h2 := h.2; rw [ricF] at h2; omega), ricF]
    decide
  | i + 1 => by
    have := ric_small (g := g) (P := P) i
    rw [ricF]
    split
    · omega
    · omega
theorem ric_uniq {g : Nat → Nat} {P : Nat → Bool} {b : Nat} (h0 : P 0 = true) (h1 : b < 512 ∧ P b = true) (h2 : ∀ t, t < 512 → P t = true → kyR g b ≤ kyR g t) : b = ricF g P 512 := by
  have l := ric_lt (g := g) h0 512 (by omega)
  have a := ricF_le (g := g) h1.1 h1.2
  have c := h2 _ l (ricF_in h0 512).2
  have p1 := pop_le _ l
  have p2 := pop_le _ h1.1
  unfold kyR at a c
  omega
section
variable {Y T : Nat → Nat} {Wc : Nat → Nat → Nat → Nat → Nat → Nat → Nat} {B nf s : Nat}
theorem pntF_sum (O : okT B nf Y T) (W : okV nf Y) (hB : B + 9 < 100000) (ho : ∀ p, p < 9 → s.testBit p = true → 0 < T (3 * p + 2)) : ∀ i, i ≤ 9 → (pntF Wc Y s T i).2 ≤ 1000 * i
  | 0, _ => Nat.le_refl _
  | i + 1, hi => by
    have ih := pntF_sum O W hB ho i (by omega)
    have o := (pntF_ok (Wc := Wc) O W hB ho i (by omega)).2.2.2.2.2.2.1
    have l := (yardsA_le (Wc := Wc) (Y := Y) (T := (pntF Wc Y s T i).1) (p := i)).2
    rw [pntF]
    split
    · show _ + _ ≤ _
      omega
    · omega
def ricP (T : Nat → Nat) (k t : Nat) : Bool := decide (t &&& opensA T = t) && decide (pop10 t ≤ k)
end
def bstR (I : Nat → Nat → Int32) (e : Nat) (g : Nat → Nat) (b : Nat) : Prop := b < 512 ∧ g b ≤ 9000 ∧ I e 0 = nI b ∧ I e 1 = nI (pop10 b) ∧ I e 2 = nI (g b)
def nxtR (g : Nat → Nat) (P : Nat → Bool) (i s : Nat) (b0 b1 : Nat) : Prop := (b1 = b0 ∨ (b1 < 512 ∧ P b1 = true)) ∧ kyR g b1 ≤ kyR g b0 ∧ ∀ t, t < 512 → P t = true → t % 2 ^ i = s → kyR g b1 ≤ kyR g t
section
variable {G : zG} {d : Nat} {I : Nat → Nat → Int32} {J : Nat → Nat → Int64} {R : Nat → Nat → Option Nat} {K : Nat → Nat × Nat} {n : Nat} {x m v w q nx lo M t c : Nat} {lk sq : Nat → Nat} {tl : Nat → Nat} {tt : Nat → Nat → Nat} {vl : Vt} {st : Stt} {tp : Tpt} {lw : Lwt} {sp : Spt} {ap : Nat} {sg : Sgt} {B B1 : Nat} {p p1 p2 : Int32} {T : Nat → Nat} {I1 : Nat → Nat → Int32} {Q : Option Value → zH → Prop}
/-- the yards of a set -/
def yarS (vl : Vt) (st : Stt) (lw : Lwt) (s : Nat) : Nat := (pntF (aW lw) vl.2.1 s st.1 9).2
theorem c_richC (C : CIv G I R K n x m v w q nx lo M lk sq vl st tp lw sp ap sg B) {k j i s b0 : Nat} {I3 : Nat → Nat → Int32} (hB : B + 20 < 100000) (hi : i + j = 9) (hs : s < 2 ^ i) (ho : ∀ p, p < 9 → s.testBit p = true → 0 < st.1 (3 * p + 2)) (hP : ricP st.1 k s = true) (h3 : ∀ b k, ¬ scr x w q nx lk lw.1 b k → I3 b k = I b k) (e5 : I3 (x + 80) 5 = nI k) (eb : bstR I3 (x + 80) (yarS vl st lw) b0) (cs3 : CS I3 (x + 20) (pntF (aW lw) vl.2.1 s st.1 9).1) (hQ : ∀ I' b1, (∀ b k, ¬ scr x w q nx lk lw.1 b k → I' b k = I b k) → I' (x + 80) 5 = nI k → bstR I' (x + 80) (yarS vl st lw) b1 → nxtR (yarS vl st lw) (ricP st.1 k) i s b0 b1 → CS I' (x + 20) (pntF (aW lw) vl.2.1 s st.1 9).1 → Q none (I', J, R, K, n)) (L : ∀ I4 b1, kyR (yarS vl st lw) b1 ≤ kyR (yarS vl st lw) s → (∀ b k, ¬ scr x w q nx lk lw.1 b k → I4 b k = I b k) → I4 (x + 80) 5 = nI k → bstR I4 (x + 80) (yarS vl st lw) b1 → CS I4 (x + 20) (pntF (aW lw) vl.2.1 s st.1 9).1 → (∀ I' b2, (∀ b k, ¬ scr x w q nx lk lw.1 b k → I' b k = I b k) → I' (x + 80) 5 = nI k → bstR I' (x + 80) (yarS vl st lw) b2 → nxtR (yarS vl st lw) (ricP st.1 k) i s b1 b2 → CS I' (x + 20) (pntF (aW lw) vl.2.1 s st.1 9).1 → Q none (I', J, R, K, n)) → zV G (d + j + 5) mX4_tryRich 0 0 61 [(0, .ref (x + 80)), (1, .int (nI i)), (2, .int (nI s)), (3, .int (nI (pop10 s))), (4, .int (nI (yarS vl st lw s))), (5, .int (nI i))] [] (I4, J, R, K, n) Q) : zC G (d + j + 5) mX4_tryRich 0 0 [.ref (x + 80), .int (nI i), .int (nI s), .int (nI (pop10 s)), .int (nI (yarS vl st lw s))] (I3, J, R, K, n) Q := by
  have h6 := C.okv.1.1
  have s5 : s < 512 := Nat.lt_of_lt_of_le hs (Nat.pow_le_pow_right (n := 2) (j := 9) (by decide) (by omega))
  have sp9 := pop_le s s5
  have ys : yarS vl st lw s ≤ 9000 := pntF_sum C.oks.1 C.okv.1 (by omega) ho 9 (by omega)
  obtain ⟨b5, y5, eb0, eb1, eb2⟩ := eb
  have bp9 := pop_le b0 b5
  have put : ∀ I4 I5 I6 : Nat → Nat → Int32, I4 = zU I3 (x + 80) 0 (nI s) → I5 = zU I4 (x + 80) 1 (nI (pop10 s)) → I6 = zU I5 (x + 80) 2 (nI (yarS vl st lw s)) → kyR (yarS vl st lw) s ≤ kyR (yarS vl st lw) b0 → zV G (d + j + 5) mX4_tryRich 0 0 61 [(0, .ref (x + 80)), (1, .int (nI i)), (2, .int (nI s)), (3, .int (nI (pop10 s))), (4, .int (nI (yarS vl st lw s))), (5, .int (nI i))] [] (I6, J, R, K, n) Q := by
    intro I4 I5 I6 q4 q5 q6 hk
    refine L I6 s (Nat.le_refl _) (fun b y hb => ?_) ?_ ⟨s5, ys, ?_, ?_, ?_⟩ ?_ (fun I' b2 g1 g2 g3 g4 g5 => hQ I' b2 g1 g2 g3 ⟨?_, Nat.le_trans g4.2.1 hk, g4.2.2⟩ g5)
    · have ne : ¬ b = x + 80 := fun e => hb (by unfold scr; omega)
      rw [q6, zU_off ne, q5, zU_off ne, q4, zU_off ne]
      exact h3 b y hb
    · rw [q6, zU_ne (by omega), q5, zU_ne (by omega), q4, zU_ne (by omega), e5]
    · rw [q6, zU_ne (by omega), q5, zU_ne (by omega), q4, zU_self]
    · rw [q6, zU_ne (by omega), q5, zU_self]
    · rw [q6, zU_self]
    · exact cs3.same (fun b b1 b2 => by rw [q6, zU_off (by omega), q5, zU_off (by omega), q4, zU_off (by omega)])
    · rcases g4.1 with h | h
      · rw [h]; exact Or.inr ⟨s5, hP⟩
      · exact Or.inr h
  have keep : kyR (yarS vl st lw) b0 ≤ kyR (yarS vl st lw) s → zV G (d + j + 5) mX4_tryRich 0 0 61 [(0, .ref (x + 80)), (1, .int (nI i)), (2, .int (nI s)), (3, .int (nI (pop10 s))), (4, .int (nI (yarS vl st lw s))), (5, .int (nI i))] [] (I3, J, R, K, n) Q := fun hk => L I3 b0 hk h3 e5 ⟨b5, y5, eb0, eb1, eb2⟩ cs3 hQ
  refine zC.of (by decide) (Nat.le_of_ble_eq_true rfl) ?_
  refine wX4_tryRich_0 (x + 80) (x + 20) (x + 3) v (X_11 C.X) _ _ _ _ ?_
  rw [eb0, eb1, eb2, tk_lt (by omega) (by omega), tk_eq (by omega) (by omega), tk_lt (by omega) (by omega), tk_eq (by omega) (by omega), tk_le (by omega) (by omega)]
  refine ⟨fun h I4 q4 I5 q5 I6 q6 => put I4 I5 I6 q4 q5 q6 (by unfold kyR; omega), fun h => ⟨fun h1 => ⟨fun h2 I4 q4 I5 q5 I6 q6 => put I4 I5 I6 q4 q5 q6 (by unfold kyR; omega), fun h2 => ⟨fun h3 => ⟨fun h4 => keep (by unfold kyR; omega), fun h4 I4 q4 I5 q5 I6 q6 => put I4 I5 I6 q4 q5 q6 (by unfold kyR; omega)⟩, fun h3 => keep (by unfold kyR; omega)⟩⟩, fun h1 => keep (by unfold kyR; omega)⟩⟩
theorem c_richL (C : CIv G I R K n x m v w q nx lo M lk sq vl st tp lw sp ap sg B) {k : Nat} (hk : k < 10) (hB : B + 20 < 100000) : ∀ (j D i s l1 : Nat), i + j = 9 → s < 2 ^ i → ricP st.1 k s = true → ∀ (Q : Option Value → zH → Prop) (I2 : Nat → Nat → Int32) (b0 : Nat), kyR (yarS vl st lw) b0 ≤ kyR (yarS vl st lw) s → (∀ b k, ¬ scr x w q nx lk lw.1 b k → I2 b k = I b k) → I2 (x + 80) 5 = nI k → bstR I2 (x + 80) (yarS vl st lw) b0 → CS I2 (x + 20) (pntF (aW lw) vl.2.1 s st.1 9).1 → (∀ I' b1, (∀ b k, ¬ scr x w q nx lk lw.1 b k → I' b k = I b k) → I' (x + 80) 5 = nI k → bstR I' (x + 80) (yarS vl st lw) b1 → nxtR (yarS vl st lw) (ricP st.1 k) i s b0 b1 → CS I' (x + 20) (pntF (aW lw) vl.2.1 s st.1 9).1 → Q none (I', J, R, K, n)) → zV G (D + j + 5) mX4_tryRich 0 0 61 [(0, .ref (x + 80)), (1, .int (nI l1)), (2, .int (nI s)), (3, .int (nI (pop10 s))), (4, .int (nI (yarS vl st lw s))), (5, .int (nI i))] [] (I2, J, R, K, n) Q := by
  have h6 := C.okv.1.1
  intro j
  induction j with
  | zero =>
    intro D i s l1 hi hs hP Q I2 b0 hb0 h2 e5 eb cs hQ
    obtain rfl : i = 9 := by omega
    refine wX4_tryRich_61 (x + 80) (x + 20) (x + 3) v (X_11 C.X) _ _ _ _ _ ⟨fun _ => ?_, fun h => absurd (by decide) h⟩
    refine hQ I2 b0 h2 e5 eb ⟨Or.inl rfl, Nat.le_refl _, fun t ht _ hm => ?_⟩ cs
    rw [Nat.mod_eq_of_lt (show t < 2 ^ 9 from ht)] at hm
    rw [hm]
    exact hb0
  | succ j ih =>
    intro D i s l1 hi hs hP Q I2 b0 hb0 h2 e5 eb cs hQ
    have C2 := C.same h2
    have s5 : s < 512 := Nat.lt_of_lt_of_le hs (Nat.pow_le_pow_right (n := 2) (j := 9) (by decide) (by omega))
    have hs2 : s < 2 ^ (i + 1) := Nat.lt_of_lt_of_le hs (Nat.pow_le_pow_right (by decide) (by omega))
    have sp9 := pop_le s s5
    have hP2 := hP
    unfold ricP at hP2
    rw [Bool.and_eq_true, decide_eq_true_iff, decide_eq_true_iff] at hP2
    obtain ⟨hsA, hsk⟩ := hP2
    have hAo : ∀ p, p < 9 → (opensA st.1).testBit p = true → 0 < st.1 (3 * p + 2) := fun p hp h => by
      unfold opensA at h
      rw [bitsA_bit, openA] at h
      simp at h
      exact h.2
    have ho : ∀ p, p < 9 → s.testBit p = true → 0 < st.1 (3 * p + 2) := fun p hp h => hAo p hp ((and_sub s5).mp hsA p hp h)
    have ok : okT (B + 9) vl.1 vl.2.1 (pntF (aW lw) vl.2.1 s st.1 9).1 := pntF_ok C.oks.1 C.okv.1 (by omega) ho 9 (by omega)
    have elow : (pntF (aW lw) vl.2.1 s st.1 9).1 (3 * i + 2) = st.1 (3 * i + 2) := pntF_low (by omega) 9
    refine wX4_tryRich_61 (x + 80) (x + 20) (x + 3) v (X_11 C.X) _ _ _ _ _ ⟨fun h => ?_, fun _ => ?_⟩
    · rw [show (9 : Int32) = nI 9 from rfl, tk_le (by omega) (by omega)] at h
      omega
    rw [e5, tk_le (by omega) (by omega), nI_1, nI_1]
    refine ⟨fun hle => ?_, fun hle => ?_⟩
    · refine hQ I2 b0 h2 e5 eb ⟨Or.inl rfl, Nat.le_refl _, fun t ht hPt hm => ?_⟩ cs
      rcases pop_more i (by omega) t ht with h | h
      · rw [hm] at h
        rw [← h]
        exact hb0
      · rw [hm] at h
        unfold ricP at hPt
        rw [Bool.and_eq_true, decide_eq_true_iff, decide_eq_true_iff] at hPt
        omega
    by_cases hop : 0 < st.1 (3 * i + 2)
    · refine c_isOpen_y (X_7 C.X) cs ok (p := i) (by omega) (by rw [elow]; exact hop) ?_
      refine ⟨_, _, rfl, rfl, ?_⟩
      refine ⟨fun h => absurd h (by decide), fun _ => ?_⟩
      have lo : 0 < (pntF (aW lw) vl.2.1 s st.1 9).1 (3 * i + 2) := by rw [elow]; exact hop
      have ea := pntF_add (Wc := aW lw) (Y := vl.2.1) (T := st.1) hs (show i < 9 by omega)
      have o5 : s ||| 2 ^ i < 512 := Nat.lt_of_lt_of_le (or_lt hs) (Nat.pow_le_pow_right (n := 2) (j := 9) (by decide) (by omega))
      have oA : (s ||| 2 ^ i) &&& opensA st.1 = s ||| 2 ^ i := by
        rw [and_sub o5]
        intro p hp h
        rw [or_bit, Bool.or_eq_true, decide_eq_true_iff] at h
        rcases h with h | rfl
        · exact (and_sub s5).mp hsA p hp h
        · unfold opensA
          rw [bitsA_bit, openA]
          simp
          exact ⟨hp, hop⟩
      have po := pop_or i (by omega) s hs
      have oP : ricP st.1 k (s ||| 2 ^ i) = true := by
        unfold ricP
        rw [Bool.and_eq_true, decide_eq_true_iff, decide_eq_true_iff]
        exact ⟨oA, by omega⟩
      have oo : ∀ p, p < 9 → (s ||| 2 ^ i).testBit p = true → 0 < st.1 (3 * p + 2) := fun p hp h => hAo p hp ((and_sub o5).mp oA p hp h)
      refine c_paintOff (X_7 C.X) C2.g2 C2.cv.1 C.okv.1 cs ok C2.lwh (p := i) (by omega) lo ?_
      intro I3 cs3 F3
      refine ⟨_, _, rfl, rfl, ?_⟩
      have h3 : ∀ b k, ¬ scr x w q nx lk lw.1 b k → I3 b k = I b k := fun b y hb => by rw [C2.fr F3 (fun h => hb (by unfold aSt at h; unfold scr; omega)) hb]; exact h2 b y hb
      have k3 : I3 (x + 80) = I2 (x + 80) := F3.low C2.lwh (by unfold aSt; omega) (by omega) (by omega)
      have ey : nI (yarS vl st lw s) + nI (yardsA (aW lw) vl.2.1 (pntF (aW lw) vl.2.1 s st.1 9).1 i) = nI (yarS vl st lw (s ||| 2 ^ i)) := by
        rw [nI_add]
        unfold yarS
        rw [ea]
      rw [tk_shl i (by omega), tk_or, ← po, ey]
      have eb3 : bstR I3 (x + 80) (yarS vl st lw) b0 := by unfold bstR; rw [k3]; exact eb
      have cs3' : CS I3 (x + 20) (pntF (aW lw) vl.2.1 (s ||| 2 ^ i) st.1 9).1 := by rw [ea]; exact cs3
      refine c_richC (d := D) (j := j) C hB (by omega) (or_lt hs) oo oP h3 (by rw [k3]; exact e5) eb3 cs3' ?_ (fun I4 b1 a1 a2 a3 a4 a5 a6 => ih D (i + 1) (s ||| 2 ^ i) (i + 1) (by omega) (or_lt hs) oP _ I4 b1 a1 a2 a3 a4 a5 a6)
      intro I4 b1 h4 f5 fb nx4 cs4
      refine ⟨_, rfl, rfl, ?_⟩
      rw [ea] at cs4
      have C4 := C.same h4
      refine c_scrapeOff (X_7 C.X) C.okv.1 cs4 ok (p := i) (by omega) lo ?_
      intro I5 cs5 F5
      refine ⟨_, rfl, rfl, ?_⟩
      have h5 : ∀ b k, ¬ scr x w q nx lk lw.1 b k → I5 b k = I b k := fun b y hb => by rw [C4.fr F5 (fun h => hb (by unfold aSt at h; unfold scr; omega)) hb]; exact h4 b y hb
      have k5 : I5 (x + 80) = I4 (x + 80) := F5.low C4.lwh (by unfold aSt; omega) (by omega) (by omega)
      have step : ∀ b2, nxtR (yarS vl st lw) (ricP st.1 k) (i + 1) s b1 b2 → nxtR (yarS vl st lw) (ricP st.1 k) i s b0 b2 := by
        intro b2 nx5
        refine ⟨?_, Nat.le_trans nx5.2.1 nx4.2.1, fun t ht hP hm => ?_⟩
        · rcases nx5.1 with h | h
          · rw [h]; exact nx4.1
          · exact Or.inr h
        · rcases mod_cases hm with ⟨-, e⟩ | ⟨-, e⟩
          · exact nx5.2.2 t ht hP e
          · exact Nat.le_trans nx5.2.1 (nx4.2.2 t ht hP e)
      rw [show D + (j + 1) + 4 + 1 = D + 1 + j + 5 by omega]
      exact ih (D + 1) (i + 1) s l1 (by omega) hs2 hP Q I5 b1 (Nat.le_trans nx4.2.1 hb0) h5 (by rw [k5]; exact f5) (by unfold bstR; rw [k5]; exact fb) cs5 (fun I' b2 g1 g2 g3 g4 g5 => hQ I' b2 g1 g2 g3 (step b2 g4) g5)
    · refine c_isOpen_n (X_7 C.X) cs ok (p := nI i) (Or.inr ⟨i, by omega, rfl, by omega⟩) ?_
      refine ⟨_, _, rfl, rfl, ?_⟩
      refine ⟨fun _ => ?_, fun h => absurd rfl h⟩
      rw [show D + (j + 1) + 4 + 1 = D + 1 + j + 5 by omega]
      refine ih (D + 1) (i + 1) s l1 (by omega) hs2 hP Q I2 b0 hb0 h2 e5 eb cs (fun I' b1 g1 g2 g3 g4 g5 => hQ I' b1 g1 g2 g3 ⟨g4.1, g4.2.1, fun t ht hPt hm => ?_⟩ g5)
      rcases mod_cases hm with ⟨-, e⟩ | ⟨e, -⟩
      · exact g4.2.2 t ht hPt e
      · unfold ricP at hPt
        rw [Bool.and_eq_true, decide_eq_true_iff] at hPt
        exact absurd (hAo i (by omega) ((and_sub ht).mp hPt.1 i (by omega) e)) hop
theorem ricP0 {T : Nat → Nat} {k : Nat} : ricP T k 0 = true := by
  unfold ricP
  rw [Nat.zero_and]
  simp [show pop10 0 = 0 from by decide]
theorem c_enrich (C : CIv G I R K n x m v w q nx lo M lk sq vl st tp lw sp ap sg B) {k : Nat} (hk : k < 10) (hB : B + 20 < 100000) {I2 : Nat → Nat → Int32} (h2 : ∀ b k, ¬ scr x w q nx lk lw.1 b k → I2 b k = I b k) (cs : CS I2 (x + 20) st.1) (hQ : ∀ I', (∀ b k, ¬ scr x w q nx lk lw.1 b k → I' b k = I b k) → I' (x + 80) 0 = nI (ricF (yarS vl st lw) (ricP st.1 k) 512) → I' (x + 80) 2 = nI (yarS vl st lw (ricF (yarS vl st lw) (ricP st.1 k) 512)) → Q none (I', J, R, K, n)) : zC G (d + 15) mX4_enrich 0 0 [.ref (x + 80), .int (nI k)] (I2, J, R, K, n) Q := by
  have e0' : pntF (aW lw) vl.2.1 0 st.1 9 = (st.1, 0) := by
    have := pntF_cut (Wc := aW lw) (Y := vl.2.1) (T := st.1) (s := 0) (i := 0) (by decide) 9
    rw [show 0 + 9 = 9 from rfl] at this
    rw [this]
    rfl
  have e0 : (pntF (aW lw) vl.2.1 0 st.1 9).1 = st.1 := by rw [e0']
  have y0 : yarS vl st lw 0 = 0 := by unfold yarS; rw [e0']
  have ho : ∀ p, p < 9 → (0 : Nat).testBit p = true → 0 < st.1 (3 * p + 2) := fun p _ h => by rw [Nat.zero_testBit] at h; exact absurd h (by decide)
  refine zC.of (by decide) (Nat.le_of_ble_eq_true rfl) ?_
  refine wX4_enrich_0 (x + 80) (x + 20) (x + 3) v (X_11 C.X) _ ?_
  intro J1 q1 J2 q2 J3 q3 J4 q4
  have h4 : ∀ b k, ¬ scr x w q nx lk lw.1 b k → J4 b k = I b k := fun b y hb => by
    have ne : ¬ b = x + 80 := fun e => hb (by unfold scr; omega)
    rw [q4, zU_off ne, q3, zU_off ne, q2, zU_off ne, q1, zU_off ne]
    exact h2 b y hb
  have c4 : CS J4 (x + 20) (pntF (aW lw) vl.2.1 0 st.1 9).1 := by
    rw [e0]
    exact cs.same (fun b b1 b2 => by rw [q4, zU_off (by omega), q3, zU_off (by omega), q2, zU_off (by omega), q1, zU_off (by omega)])
  have f5 : J4 (x + 80) 5 = nI k := by rw [q4, zU_self]
  have fb : bstR J4 (x + 80) (yarS vl st lw) 0 := ⟨by decide, by rw [y0]; decide, by rw [q4, zU_ne (by omega), q3, zU_ne (by omega), q2, zU_ne (by omega), q1, zU_self]; rfl, by rw [q4, zU_ne (by omega), q3, zU_ne (by omega), q2, zU_self]; decide, by rw [q4, zU_ne (by omega), q3, zU_self, y0]; rfl⟩
  have key := c_richC (d := d) (j := 9) (i := 0) (s := 0) (J := J) (Q := fun r h => ∃ I5 : Nat → Nat → Int32, r = none ∧ h = (I5, J, R, K, n) ∧ Q none (I5, J, R, K, n)) C hB (by omega) (by decide) ho ricP0 h4 f5 fb c4 (by
    intro I' b1 g1 _ g3 g4 _
    have e : b1 = ricF (yarS vl st lw) (ricP st.1 k) 512 := ric_uniq ricP0 (by
      rcases g4.1 with h | h
      · rw [h]; exact ⟨by decide, ricP0⟩
      · exact h) (fun t ht hP => g4.2.2 t ht hP (Nat.mod_one t))
    subst e
    exact ⟨_, rfl, rfl, hQ I' g1 g3.2.2.1 g3.2.2.2.2⟩) (fun I4 b1 a1 a2 a3 a4 a5 a6 => c_richL C hk hB 9 d 0 0 0 (by omega) (by decide) ricP0 _ I4 b1 a1 a2 a3 a4 a5 a6)
  rw [y0, show pop10 0 = 0 by decide] at key
  exact key
theorem x_richest_y (C : CIv G I R K n x m v w q nx lo M lk sq vl st tp lw sp ap sg B) {k e : Nat} (hv : 0 < vl.1) (hk : k < 10) (he : e < 2) (hB : B + 20 < 100000) : XC G (d + 16) mX11_richest [.ref x, .int (nI k), .int (nI e)] I J R K n x m (if e = 0 then nI (ricF (yarS vl st lw) (ricP st.1 k) 512) else nI (yarS vl st lw (ricF (yarS vl st lw) (ricP st.1 k) 512))) vl st tp lw sp ap sg B := by
  intro Q hQ
  have h6 := C.okv.1.1
  refine zC.of (by decide) (Nat.le_of_ble_eq_true rfl) ?_
  refine wX11_richest_0 x v w q C.X _ _ ?_
  refine c_hasV_y C hv ?_
  refine ⟨_, _, rfl, rfl, ?_⟩
  refine ⟨fun h => absurd h (by decide), fun _ => ⟨fun h => absurd h (nI_pos (by omega)), fun _ => ⟨fun h => ?_, fun _ => ⟨fun h => absurd h (nI_pos (by omega)), fun _ => ⟨fun _ => ?_, fun h => absurd ((tk_le (b := 1) (by omega) (by omega)).mpr (by omega)) h⟩⟩⟩⟩⟩
  · rw [show (9 : Int32) = nI 9 from rfl, tk_lt (by omega) (by omega)] at h
    omega
  refine c_copyFrom (X_7 C.X) (X_5 C.X) C.cs (by omega) ?_
  intro I2 cs2 f2
  refine ⟨_, rfl, rfl, ?_⟩
  have h2 : ∀ b k, ¬ scr x w q nx lk lw.1 b k → I2 b k = I b k := fun b k hb => by rw [f2 b (fun h => hb (by unfold scr; omega))]
  refine c_enrich C hk hB h2 cs2 ?_
  intro I' h' e0 e2
  refine ⟨_, rfl, rfl, qI ?_ (hQ I' v w q nx lo M lk sq (C.same h') (C.mid h'))⟩
  by_cases h : e = 0
  · rw [if_pos h, if_pos (by rw [h]; rfl), e0]
  · rw [if_neg h, if_neg (show ¬ nI e = (0 : Int32) from fun h2 => h ((tk_eq (b := 0) (by omega) (by omega)).mp h2)), e2]
theorem x_richest_n (C : CIv G I R K n x m v w q nx lo M lk sq vl st tp lw sp ap sg B) (hn : ¬ (0 < vl.1 ∧ ∃ k e : Nat, k < 10 ∧ e < 2 ∧ p1 = nI k ∧ p2 = nI e)) : XC G (d + 3) mX11_richest [.ref x, .int p1, .int p2] I J R K n x m (-1) vl st tp lw sp ap sg B := by
  intro Q hQ
  replace hQ := hQ I v w q nx lo M lk sq C (fun _ _ _ => rfl)
  have h6 := C.okv.1.1
  refine zC.of (by decide) (Nat.le_of_ble_eq_true rfl) ?_
  refine wX11_richest_0 x v w q C.X _ _ ?_
  by_cases hv : 0 < vl.1
  · refine c_hasV_y C hv ?_
    refine ⟨_, _, rfl, rfl, ?_⟩
    refine ⟨fun h => absurd h (by decide), fun _ => ⟨fun _ => hQ, fun h1 => ⟨fun _ => hQ, fun h2 => ⟨fun _ => hQ, fun h3 => ⟨fun h4 => ?_, fun _ => hQ⟩⟩⟩⟩⟩
    obtain ⟨k, hk, rfl⟩ := in3 (N := 9) (by decide) h1 (Int32.not_lt.mp h2)
    obtain ⟨e, he, rfl⟩ := in3 (N := 1) (by decide) h3 h4
    exact absurd ⟨hv, k, e, hk, he, rfl, rfl⟩ hn
  · refine c_hasV_n C hv ?_
    refine ⟨_, _, rfl, rfl, ?_⟩
    exact ⟨fun _ => hQ, fun h => absurd rfl h⟩
end
