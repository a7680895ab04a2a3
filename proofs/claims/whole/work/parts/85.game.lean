/-! THE FACE: game: the class -/
/-- all that g did to f painted off, wrong by wrong -/
def choT (Wc : Nat → Nat → Nat → Nat → Nat → Nat → Nat) (Y : Nat → Nat) (f g : Nat) : Nat → Nat → (Nat → Nat) → Nat → Nat
  | 0, _, T => T
  | j + 1, p, T => choT Wc Y f g j (p + 1) (if 0 < T (3 * p + 2) ∧ T (3 * p + 1) = f ∧ T (3 * p) = g then paintT Wc Y T p else T)
def dabN (Y T : Nat → Nat) (f : Nat) : Nat := min 9 (min (T 47) (bareA Y T f))
def gamT (Wc : Nat → Nat → Nat → Nat → Nat → Nat → Nat) (Y : Nat → Nat) (f g k : Nat) (T : Nat → Nat) : Nat → Nat := if k = 2 then daubT T f (dabN Y T f) else if k = 1 then choT Wc Y f g 9 0 T else T
theorem daub0 {T : Nat → Nat} {f : Nat} : daubT T f 0 = T := by
  unfold daubT
  rw [Nat.add_zero, Nat.sub_zero, up_id, up_id]
theorem paint_low {Wc : Nat → Nat → Nat → Nat → Nat → Nat → Nat} {Y T : Nat → Nat} {p k : Nat} (hk : k < 27) : paintT Wc Y T p k = T k := by
  unfold paintT
  rw [up_ne (by omega), up_ne (by omega), up_ne (by omega)]
section
variable {G : zG} {d : Nat} {I : Nat → Nat → Int32} {J : Nat → Nat → Int64} {R : Nat → Nat → Option Nat} {K : Nat → Nat × Nat} {n : Nat} {x m v w q nx lo M t c : Nat} {lk sq : Nat → Nat} {tl : Nat → Nat} {tt : Nat → Nat → Nat} {vl : Vt} {st : Stt} {tp : Tpt} {lw : Lwt} {sp : Spt} {ap : Nat} {sg : Sgt} {B B1 : Nat} {p p1 p2 p3 p4 p5 : Int32} {T : Nat → Nat} {I1 : Nat → Nat → Int32} {Q : Option Value → zH → Prop}
theorem c_cho (C : CIv G I R K n x m v w q nx lo M lk sq vl st tp lw sp ap sg B) {f g s l1 l2 l3 : Nat} (hs : ∀ p, p < 9 → (s.testBit p = true ↔ (0 < T (3 * p + 2) ∧ T (3 * p + 1) = f ∧ T (3 * p) = g))) (h512 : s < 512) (hB : B1 + 9 < 100000) : ∀ (j i : Nat) (I2 : Nat → Nat → Int32) (T2 : Nat → Nat), i + j = 9 → (∀ k, k < 27 → T2 k = T k) → (∀ b k, ¬ scr x w q nx lk lw.1 b k → I2 b k = I b k) → (∀ b, x + 86 ≤ b → b < x + 99 → I2 b = I1 b) → CS I2 (x + 20) T2 → okT (B1 + i) vl.1 vl.2.1 T2 → (∀ I', (∀ b k, ¬ scr x w q nx lk lw.1 b k → I' b k = I b k) → (∀ b, x + 86 ≤ b → b < x + 99 → I' b = I1 b) → CS I' (x + 20) (choT (aW lw) vl.2.1 f g j i T2) → okT (B1 + 9) vl.1 vl.2.1 (choT (aW lw) vl.2.1 f g j i T2) → Q none (I', J, R, K, n)) → zV G (d + 5) mX0_choose 0 0 68 [(0, .ref (x + 87)), (1, .int (nI l1)), (2, .int (nI l2)), (3, .int (nI l3)), (4, .int (nI s)), (5, .int (nI i))] [] (I2, J, R, K, n) Q := by
  intro j
  induction j with
  | zero =>
    intro i I2 T2 hi ht hf hk cs ok hQ
    obtain rfl : i = 9 := by omega
    exact wX0_choose_68 (x + 87) (x + 12) (x + 20) (x + 3) v (X_15 C.X) _ _ _ _ _ ⟨fun _ => hQ I2 hf hk cs ok, fun h => absurd (by decide) h⟩
  | succ j ih =>
    intro i I2 T2 hi ht hf hk cs ok hQ
    have C2 := C.same hf
    refine wX0_choose_68 (x + 87) (x + 12) (x + 20) (x + 3) v (X_15 C.X) _ _ _ _ _ ⟨fun h => ?_, fun _ => ?_⟩
    · rw [show (9 : Int32) = nI 9 from rfl, tk_le (by omega) (by omega)] at h
      omega
    rw [tk_bit (by omega) (by omega), nI_1, hs i (by omega), ← ht (3 * i + 2) (by omega), ← ht (3 * i + 1) (by omega), ← ht (3 * i) (by omega)]
    rw [choT] at hQ
    refine ⟨fun h => ?_, fun h => ?_⟩
    · rw [if_pos h] at hQ
      refine c_paintOff (X_7 C.X) C2.g2 C2.cv.1 C.okv.1 cs ok C2.lwh (p := i) (by omega) h.1 ?_
      intro I3 cs3 F3
      refine ⟨_, _, rfl, rfl, ?_⟩
      exact ih (i + 1) I3 _ (by omega) (fun k hk => by rw [paint_low hk]; exact ht k hk) (fun b y hb => by rw [C2.fr F3 (fun h => hb (by unfold aSt at h; unfold scr; omega)) hb]; exact hf b y hb) (fun b b1 b2 => by rw [F3.low C2.lwh (by unfold aSt; omega) (by omega) (by omega)]; exact hk b b1 b2) cs3 (ok.paint C.okv.1 (by omega) (by omega) h.1) hQ
    · rw [if_neg h] at hQ
      exact ih (i + 1) I2 T2 (by omega) ht hf hk cs (ok.wide (by omega) (by omega)) hQ
theorem c_choose (C : CIv G I R K n x m v w q nx lo M lk sq vl st tp lw sp ap sg B) {f g k : Nat} (hf : f < vl.1) (hg : g < vl.1) (hk : k < 3) (h1 : ∀ b k, ¬ scr x w q nx lk lw.1 b k → I1 b k = I b k) (cs : CS I1 (x + 20) T) (ok : okT B1 vl.1 vl.2.1 T) (hB : B1 + 9 < 100000) (hQ : ∀ I', (∀ b k, ¬ scr x w q nx lk lw.1 b k → I' b k = I b k) → (∀ b, x + 86 ≤ b → b < x + 99 → I' b = I1 b) → CS I' (x + 20) (gamT (aW lw) vl.2.1 f g k T) → okT (B1 + 9) vl.1 vl.2.1 (gamT (aW lw) vl.2.1 f g k T) → Q none (I', J, R, K, n)) : zC G (d + 5) mX0_choose 0 0 [.ref (x + 87), .int (nI f), .int (nI g), .int (nI k)] (I1, J, R, K, n) Q := by
  have h6 := C.okv.1.1
  have C1 := C.same h1
  have z0 : ∀ p, p < 9 → ((0 : Nat).testBit p = true ↔ (0 < T (3 * p + 2) ∧ T (3 * p + 1) = 9 ∧ T (3 * p) = 9)) := fun p hp => by
    rw [Nat.zero_testBit]
    exact ⟨fun h => absurd h (by decide), fun h => by have := (ok.1 p hp).2 h.1; omega⟩
  have c9 : ∀ (T' : Nat → Nat), (∀ k, k < 27 → T' k = T k) → ∀ j i, i + j = 9 → choT (aW lw) vl.2.1 9 9 j i T' = T' := by
    intro T' hT j
    induction j with
    | zero => intro i _; rfl
    | succ j ih =>
      intro i hi
      rw [choT, if_neg (fun h => ?_)]
      · exact ih (i + 1) (by omega)
      · rw [hT _ (by omega), hT _ (by omega), hT _ (by omega)] at h
        exact absurd ((z0 i (by omega)).mpr h) (by rw [Nat.zero_testBit]; decide)
  refine zC.of (by decide) (Nat.le_of_ble_eq_true rfl) ?_
  refine wX0_choose_0 (x + 87) (x + 12) (x + 20) (x + 3) v (X_15 C.X) _ _ _ ?_
  refine ⟨fun h => ?_, fun h => ?_⟩
  · rw [show (2 : Int32) = nI 2 from rfl, tk_eq (by omega) (by omega)] at h
    subst h
    unfold gamT at hQ
    rw [if_pos rfl] at hQ
    have bl := bareA_le (T := T) C.okv.1 hf
    have o := ok.2.2.2.2
    refine c_bare (X_7 C.X) C1.cv.1 C.okv.1 cs ok hf ?_
    refine ⟨_, _, rfl, rfl, ?_⟩
    have e : (if (if nI (bareA vl.2.1 T f) < I1 (x + 20) 8 then nI (bareA vl.2.1 T f) else I1 (x + 20) 8) < (9 : Int32) then (if nI (bareA vl.2.1 T f) < I1 (x + 20) 8 then nI (bareA vl.2.1 T f) else I1 (x + 20) 8) else (9 : Int32)) = nI (dabN vl.2.1 T f) := by
      rw [cs.2.2.2.2.1]
      unfold dabN
      simp (disch := omega) only [tk_0, tk_1, tk_2, tk_3, tk_4, tk_5, tk_6, tk_7, tk_8, tk_9, tk_10, tk_11, tk_12, tk_13, tk_14, tk_15, tk_16, tk_20, tk_24, tk_25, tk_26, tk_27, tk_28, tk_29, tk_30, tk_31, tk_32, tk_40, tk_41, tk_45, tk_46, tk_47, tk_48, tk_49, tk_50, tk_51, tk_57, tk_60, tk_99, tk_100, tk_120, tk_128, tk_231, tk_240, tk_255, tk_500, tk_999, tk_9999, tk_10000, pk_mul, nI_add, tk_c, tk_in, tk_lt, tk_le, tk_eq, tk_and31, tk_shl1, tk_shr1, tk_and1, tk_or, tk_ite, tk_tb, tk_mn, tk_mx]
    rw [e]
    have e10 : ¬ nI 2 = (1 : Int32) := by decide
    have done : ∀ I3, CS I3 (x + 20) (daubT T f (dabN vl.2.1 T f)) → okT B1 vl.1 vl.2.1 (daubT T f (dabN vl.2.1 T f)) → Fr (aSt (x + 20)) R (x + 3) I1 I3 → zV G (d + 5) mX0_choose 0 0 68 [(0, .ref (x + 87)), (1, .int (nI f)), (2, .int (nI g)), (3, .int (nI 2)), (4, .int 0), (5, .int 0)] [] (I3, J, R, K, n) Q := by
      intro I3 cs3 ok3 F3
      have lowD : ∀ k, k < 27 → daubT T f (dabN vl.2.1 T f) k = T k := fun k hk => by unfold daubT; rw [up_ne (by omega), up_ne (by omega)]
      have e9 := c9 _ lowD 9 0 (by omega)
      refine c_cho (I1 := I1) (T := T) (s := 0) (l3 := 2) C z0 (by omega) hB 9 0 I3 _ (by omega) lowD (fun b y hb => by rw [C1.fr F3 (fun h => hb (by unfold aSt at h; unfold scr; omega)) hb]; exact h1 b y hb) (fun b b1 b2 => F3.low C1.lwh (by unfold aSt; omega) (by omega) (by omega)) cs3 ok3 ?_
      rw [e9]
      exact hQ
    by_cases hy : 1 ≤ dabN vl.2.1 T f
    · refine c_daub (X_7 C.X) C1.cv.1 C.okv.1 cs ok hf hy (by unfold dabN; omega) (by unfold dabN; omega) (by unfold dabN; omega) ?_
      intro I3 cs3 F3
      exact ⟨_, _, rfl, rfl, fun h => absurd h e10, fun _ => done I3 cs3 (ok.daub C.okv.1 hf (by unfold dabN; omega) (by unfold dabN; omega)) F3⟩
    · have hy0 : dabN vl.2.1 T f = 0 := by omega
      refine c_daub_n (X_7 C.X) C1.cv.1 C.okv.1 cs ok ?_ ?_
      · rintro ⟨f', k', -, e2, -, k1, k9, -⟩
        rw [hy0] at e2
        have := (tk_eq (a := 0) (b := k') (by omega) (by omega)).mp e2
        omega
      · refine ⟨_, _, rfl, rfl, fun h => absurd h e10, fun _ => done I1 ?_ ?_ Fr.rf⟩
        · rw [hy0, daub0]; exact cs
        · rw [hy0, daub0]; exact ok
  · rw [show (2 : Int32) = nI 2 from rfl, tk_eq (by omega) (by omega)] at h
    unfold gamT at hQ
    rw [if_neg h] at hQ
    refine ⟨fun h2 => ?_, fun h2 => ?_⟩
    · rw [show (1 : Int32) = nI 1 from rfl, tk_eq (by omega) (by omega)] at h2
      subst h2
      rw [if_pos rfl] at hQ
      refine c_doneTo (X_7 C.X) C.okv.1 cs ok (f := f) (by omega) ?_
      refine ⟨_, _, rfl, rfl, ?_⟩
      refine c_doneBy (X_7 C.X) C.okv.1 cs ok (f := g) (by omega) ?_
      refine ⟨_, _, rfl, rfl, ?_⟩
      have b1 : toA T f < 512 := bits_9 _ (by omega)
      rw [tk_and]
      refine c_cho (I1 := I1) (T := T) (s := toA T f &&& byA T g) (l3 := 1) C (fun p hp => ?_) (Nat.lt_of_le_of_lt Nat.and_le_left b1) hB 9 0 I1 T (by omega) (fun _ _ => rfl) h1 (fun _ _ _ => rfl) cs ok hQ
      unfold toA byA
      rw [Nat.testBit_and, bitsA_bit, bitsA_bit, decide_eq_true hp]
      simp [openA]
      omega
    · rw [show (1 : Int32) = nI 1 from rfl, tk_eq (by omega) (by omega)] at h2
      rw [if_neg h2] at hQ
      have e9 := c9 T (fun _ _ => rfl) 9 0 (by omega)
      refine c_cho (I1 := I1) (T := T) (s := 0) (l3 := k) C z0 (by omega) hB 9 0 I1 T (by omega) (fun _ _ => rfl) h1 (fun _ _ _ => rfl) cs ok ?_
      rw [e9]
      exact hQ
/-- the row behind both choices -/
def plyT (vl : Vt) (lw : Lwt) (T : Nat → Nat) (f g a b : Nat) : Nat → Nat := gamT (aW lw) vl.2.1 g f b (gamT (aW lw) vl.2.1 f g a T)
def gainA (T T' : Nat → Nat) (f a : Nat) : Int32 := nI (T' (27 + 3 * f) + T' (28 + 3 * f)) - nI (T (27 + 3 * f) + T (28 + 3 * f)) - (if a = 2 then 2 else 0)
theorem c_gain (C : CIv G I R K n x m v w q nx lo M lk sq vl st tp lw sp ap sg B) (h1 : ∀ b k, ¬ scr x w q nx lk lw.1 b k → I1 b k = I b k) (cs : CS I1 (x + 20) T) {f a : Nat} (hf : f < 6) (ha : a < 3) (hQ : Q (some (.int (gainA st.1 T f a))) (I1, J, R, K, n)) : zC G (d + 2) mX0_gain 0 0 [.ref (x + 87), .int (nI f), .int (nI a)] (I1, J, R, K, n) Q := by
  refine zC.of (by decide) (Nat.le_of_ble_eq_true rfl) ?_
  refine wX0_gain_0 (x + 87) (x + 12) (x + 20) (x + 3) v (X_15 C.X) _ _ ?_
  refine c_whiteYards (X_7 C.X) cs hf ?_
  refine ⟨_, _, rfl, rfl, ?_⟩
  refine c_whiteYards (X_5 C.X) (C.same h1).cs hf ?_
  refine ⟨_, _, rfl, rfl, ?_⟩
  refine qI ?_ hQ
  unfold gainA
  by_cases e : a = 2
  · rw [if_pos e, if_pos (by rw [e]; rfl)]
  · rw [if_neg e, if_neg (show ¬ nI a = (2 : Int32) from fun h => e ((tk_eq (b := 2) (by omega) (by omega)).mp h))]
theorem c_play (C : CIv G I R K n x m v w q nx lo M lk sq vl st tp lw sp ap sg B) (h1 : ∀ b k, ¬ scr x w q nx lk lw.1 b k → I1 b k = I b k) {f g a b : Nat} (hf : f < vl.1) (hg : g < vl.1) (ha : a < 3) (hb : b < 3) (hB : B + 20 < 100000) (hQ : ∀ I', (∀ b k, ¬ scr x w q nx lk lw.1 b k → I' b k = I b k) → (∀ e k, x + 86 ≤ e → e < x + 99 → ¬ (e = x + 89 + a ∧ k = b) → ¬ (e = x + 93 + a ∧ k = b) → I' e k = I1 e k) → I' (x + 89 + a) b = gainA st.1 (plyT vl lw st.1 f g a b) f a → I' (x + 93 + a) b = gainA st.1 (plyT vl lw st.1 f g a b) g b → Q none (I', J, R, K, n)) : zC G (d + 6) mX0_play 0 0 [.ref (x + 87), .int (nI f), .int (nI g), .int (nI a), .int (nI b)] (I1, J, R, K, n) Q := by
  have h6 := C.okv.1.1
  have C1 := C.same h1
  have ina : vp_in (nI a) 3 := (tk_in (by omega) (by omega)).mpr (by omega)
  have inb : vp_in (nI b) 3 := (tk_in (by omega) (by omega)).mpr (by omega)
  refine zC.of (by decide) (Nat.le_of_ble_eq_true rfl) ?_
  refine wX0_play_0 (x + 87) (x + 12) (x + 20) (x + 3) v (X_15 C.X) _ _ _ _ ?_
  refine c_copyFrom (X_7 C.X) (X_5 C.X) C1.cs (by omega) ?_
  intro I2 cs2 f2
  refine ⟨_, rfl, rfl, ?_⟩
  have h2 : ∀ b k, ¬ scr x w q nx lk lw.1 b k → I2 b k = I b k := fun b k hb => by rw [f2 b (fun h => hb (by unfold scr; omega))]; exact h1 b k hb
  refine c_choose C hf hg ha h2 cs2 C.oks.1 (by omega) ?_
  intro I3 h3 k3 cs3 ok3
  refine ⟨_, rfl, rfl, ?_⟩
  refine c_choose C hg hf hb h3 cs3 ok3 (by omega) ?_
  intro I4 h4 k4 cs4 ok4
  refine ⟨_, rfl, rfl, ina, ?_⟩
  refine c_gain C h4 cs4 (f := f) (a := a) (by omega) ha ?_
  refine ⟨_, _, rfl, rfl, ?_⟩
  rw [tk_c (by omega), tk_c (by omega)]
  refine ⟨inb, ?_⟩
  intro I5 e5
  have h5 : ∀ b k, ¬ scr x w q nx lk lw.1 b k → I5 b k = I b k := fun b k hb => by rw [e5, zU_off (fun e => hb (by unfold scr; omega))]; exact h4 b k hb
  have cs5 : CS I5 (x + 20) (gamT (aW lw) vl.2.1 g f b (gamT (aW lw) vl.2.1 f g a st.1)) := cs4.same (fun b b1 b2 => by rw [e5, zU_off (by omega)])
  refine ⟨ina, ?_⟩
  refine c_gain C h5 cs5 (f := g) (a := b) (by omega) hb ?_
  refine ⟨_, _, rfl, rfl, ?_⟩
  refine ⟨inb, ?_⟩
  intro I6 e6
  refine hQ I6 (fun b k hb => by rw [e6, zU_off (fun e => hb (by unfold scr; omega))]; exact h5 b k hb) (fun e k h1 h2 h3 h4' => ?_) ?_ ?_
  · rw [e6, zU_ne h4', e5, zU_ne h3, k4 e h1 h2, k3 e h1 h2, f2 e (by omega)]
  · rw [e6, zU_off (by omega), e5, zU_self]
    rfl
  · rw [e6, zU_self]
    rfl
def isGam (nf : Nat) (p1 p2 p3 p4 p5 : Int32) : Prop := areTwo nf p1 p2 ∧ ∃ a b e : Nat, a < 3 ∧ b < 3 ∧ e < 2 ∧ p3 = nI a ∧ p4 = nI b ∧ p5 = nI e
theorem x_game_y (C : CIv G I R K n x m v w q nx lo M lk sq vl st tp lw sp ap sg B) {f g a b e : Nat} (hf : f < vl.1) (hg : g < vl.1) (hfg : f ≠ g) (ha : a < 3) (hb : b < 3) (he : e < 2) (hB : B + 20 < 100000) : XC G (d + 7) mX11_game [.ref x, .int (nI f), .int (nI g), .int (nI a), .int (nI b), .int (nI e)] I J R K n x m (if e = 0 then gainA st.1 (plyT vl lw st.1 f g a b) f a else gainA st.1 (plyT vl lw st.1 f g a b) g b) vl st tp lw sp ap sg B := by
  intro Q hQ
  have h6 := C.okv.1.1
  have ina : vp_in (nI a) 3 := (tk_in (by omega) (by omega)).mpr (by omega)
  have inb : vp_in (nI b) 3 := (tk_in (by omega) (by omega)).mpr (by omega)
  refine zC.of (by decide) (Nat.le_of_ble_eq_true rfl) ?_
  refine wX11_game_0 x v w q C.X _ _ _ _ _ ?_
  refine c_xf_y C hf ?_
  refine ⟨_, _, rfl, rfl, ?_⟩
  refine ⟨fun h => absurd h (by decide), fun _ => ?_⟩
  refine c_xf_y C hg ?_
  refine ⟨_, _, rfl, rfl, ?_⟩
  refine ⟨fun h => absurd h (by decide), fun _ => ⟨fun h => absurd ((tk_eq (by omega) (by omega)).mp h) hfg, fun _ => ⟨fun h => absurd h (nI_pos (by omega)), fun _ => ⟨fun _ => ⟨fun h => absurd h (nI_pos (by omega)), fun _ => ⟨fun h => ?_, fun _ => ⟨fun h => absurd h (nI_pos (by omega)), fun _ => ⟨fun _ => ?_, fun h => absurd ((tk_lt (b := 3) (by omega) (by omega)).mpr (by omega)) h⟩⟩⟩⟩, fun h => absurd ((tk_le (b := 1) (by omega) (by omega)).mpr (by omega)) h⟩⟩⟩⟩
  · rw [show (3 : Int32) = nI 3 from rfl, tk_le (by omega) (by omega)] at h
    omega
  refine c_play C (fun _ _ _ => rfl) hf hg ha hb hB ?_
  intro I' h' k' e1 e2
  refine ⟨_, rfl, rfl, fun _ => ina, fun _ => inb, fun _ => ina, fun _ => inb, qI ?_ (hQ I' v w q nx lo M lk sq (C.same h') (C.mid h'))⟩
  rw [tk_c (by omega), tk_c (by omega), e1, e2]
  by_cases h : e = 0
  · rw [if_pos h, if_pos (by rw [h]; rfl)]
  · rw [if_neg h, if_neg (show ¬ nI e = (0 : Int32) from fun h2 => h ((tk_eq (b := 0) (by omega) (by omega)).mp h2))]
theorem in3 {N : Nat} {p : Int32} (hN : N < 2147483647) (h1 : ¬ p < 0) (h2 : p ≤ nI N) : ∃ k : Nat, k < N + 1 ∧ p = nI k := by
  rcases bad_or (N := N + 1) (by omega) p with h | h
  · exact absurd (in_of hN h1 h2 h) not_false
  · exact h
theorem x_game_n (C : CIv G I R K n x m v w q nx lo M lk sq vl st tp lw sp ap sg B) (hn : ¬ isGam vl.1 p1 p2 p3 p4 p5) : XC G (d + 3) mX11_game [.ref x, .int p1, .int p2, .int p3, .int p4, .int p5] I J R K n x m (-1000000) vl st tp lw sp ap sg B := by
  intro Q hQ
  replace hQ := hQ I v w q nx lo M lk sq C (fun _ _ _ => rfl)
  have h6 := C.okv.1.1
  refine zC.of (by decide) (Nat.le_of_ble_eq_true rfl) ?_
  refine wX11_game_0 x v w q C.X _ _ _ _ _ ?_
  rcases bad_or (N := vl.1) (by omega) p1 with h | ⟨f, hf, rfl⟩
  · refine c_xf_n C h ?_
    refine ⟨_, _, rfl, rfl, ?_⟩
    exact ⟨fun _ => hQ, fun h => absurd rfl h⟩
  refine c_xf_y C hf ?_
  refine ⟨_, _, rfl, rfl, ?_⟩
  refine ⟨fun h => absurd h (by decide), fun _ => ?_⟩
  rcases bad_or (N := vl.1) (by omega) p2 with h | ⟨g, hg, rfl⟩
  · refine c_xf_n C h ?_
    refine ⟨_, _, rfl, rfl, ?_⟩
    exact ⟨fun _ => hQ, fun h => absurd rfl h⟩
  refine c_xf_y C hg ?_
  refine ⟨_, _, rfl, rfl, ?_⟩
  refine ⟨fun h => absurd h (by decide), fun _ => ⟨fun _ => hQ, fun hfg => ⟨fun _ => hQ, fun h51 => ⟨fun h52 => ⟨fun _ => hQ, fun h31 => ⟨fun _ => hQ, fun h32 => ⟨fun _ => hQ, fun h41 => ⟨fun h42 => ?_, fun _ => hQ⟩⟩⟩⟩, fun _ => hQ⟩⟩⟩⟩
  obtain ⟨e, he, rfl⟩ := in3 (N := 1) (by decide) h51 h52
  obtain ⟨a, ha, rfl⟩ := tk_of (N := 3) h31 (Int32.not_le.mp h32) (by decide)
  obtain ⟨b, hb, rfl⟩ := tk_of (N := 3) h41 h42 (by decide)
  exact absurd ⟨⟨f, g, hf, hg, fun h => hfg (by rw [h]), rfl, rfl⟩, a, b, e, ha, hb, he, rfl, rfl, rfl⟩ hn
end
