/-! THE FACE: ring, chain -/
def ringA (T : Nat → Nat) : Nat → Int32
  | 0 => -1
  | f + 1 => if fV T f f 6 1 = -1 then ringA T f else if ringA T f = -1 then fV T f f 6 1 else if ringA T f ≤ fV T f f 6 1 then ringA T f else fV T f f 6 1
theorem links_val {T : Nat → Nat} {g : Nat} : ∀ {j c s : Nat}, linksA T g j c s = -1 ∨ ∃ e : Nat, e < c + j ∧ linksA T g j c s = nI e
  | 0, _, _ => Or.inl rfl
  | j + 1, c, s => by
    rw [linksA]
    split
    · exact Or.inr ⟨c, by omega, rfl⟩
    · rcases links_val (T := T) (g := g) (j := j) (c := c + 1) (s := s ||| reachA T s 9) with h | ⟨e, h1, h2⟩
      · exact Or.inl h
      · exact Or.inr ⟨e, by omega, h2⟩
section
variable {G : zG} {d : Nat} {I : Nat → Nat → Int32} {J : Nat → Nat → Int64} {R : Nat → Nat → Option Nat} {K : Nat → Nat × Nat} {n : Nat} {x m v w q nx lo M t c : Nat} {lk sq : Nat → Nat} {tl : Nat → Nat} {tt : Nat → Nat → Nat} {vl : Vt} {st : Stt} {tp : Tpt} {lw : Lwt} {sp : Spt} {ap : Nat} {sg : Sgt} {B B' : Nat} {p p2 : Int32} {T : Nat → Nat} {Q : Option Value → zH → Prop}
theorem x_ring (C : CIv G I R K n x m v w q nx lo M lk sq vl st tp lw sp ap sg B) : XC G (d + 3) mX11_ring [.ref x] I J R K n x m (ringA st.1 vl.1) vl st tp lw sp ap sg B := by
  intro Q hQ
  replace hQ := hQ I v w q nx lo M lk sq C (fun _ _ _ => rfl)
  have h6 := C.okv.1.1
  refine zC.of (by decide) (Nat.le_of_ble_eq_true rfl) ?_
  refine wX11_ring_0 x v w q C.X ?_
  have loop : ∀ j f : Nat, f + j = vl.1 → zV G (d + 3) mX11_ring 0 0 4 [(0, .ref x), (1, .int (ringA st.1 f)), (2, .int (nI f))] [] (I, J, R, K, n) Q := by
    intro j
    induction j with
    | zero =>
      intro f hf
      obtain rfl : f = vl.1 := by omega
      refine wX11_ring_4 x v w q C.X _ _ ⟨fun _ => hQ, fun h => absurd ?_ h⟩
      rw [C.cv.1.1, tk_le (by omega) (by omega)]
      omega
    | succ j ih =>
      intro f hf
      refine wX11_ring_4 x v w q C.X _ _ ⟨fun h => ?_, fun _ => ?_⟩
      · rw [C.cv.1.1, tk_le (by omega) (by omega)] at h
        omega
      rw [tk_shl f (by omega)]
      refine c_reachedFrom (X_5 C.X) C.okv.1 C.cs C.oks.1 (set := 2 ^ f) (Nat.pow_lt_pow_right (m := f) (n := 6) (by decide) (by omega)) ?_
      refine ⟨_, _, rfl, rfl, ?_⟩
      refine c_links (X_5 C.X) C.okv.1 C.cs C.oks.1 (to := f) (set := reachA st.1 (2 ^ f) 9) (by omega) (reach_lt C.oks.1 h6 (by omega)) ?_
      refine ⟨_, _, rfl, rfl, ?_⟩
      have e := ih (f + 1) (by omega)
      have lr := links_ring (T := st.1) (f := f) (g := f) (j := 6) (c := 0) (by omega)
      rw [show vA st.1 f (0 + 1) = reachA st.1 (2 ^ f) 9 from rfl] at lr
      rw [ringA, ← show _ = fV st.1 f f 6 1 from lr] at e
      rw [nI_1]
      rcases links_val (T := st.1) (g := f) (j := 6) (c := 0) (s := reachA st.1 (2 ^ f) 9) with h | ⟨y, h1, h2⟩
      · rw [if_pos h, if_pos rfl] at e
        exact ⟨fun _ => e, fun h2 => absurd h h2⟩
      · rw [h2] at e ⊢
        have hn : ¬ nI y = -1 := fun h => (tk_m1 (by omega)).mp h
        have hn2 : ¬ (nI y + 1 : Int32) = -1 := fun h => (tk_m1 (a := y + 1) (by omega)).mp (by rw [← nI_1]; exact h)
        rw [if_neg hn, if_neg hn2] at e
        refine ⟨fun h => absurd h hn, fun _ => ⟨fun h => ?_, fun h => ⟨fun h3 => ?_, fun h3 => ?_⟩⟩⟩
        · rw [if_pos h] at e; exact e
        · rw [if_neg h, if_pos h3] at e; exact e
        · rw [if_neg h, if_neg h3] at e; exact e
  exact loop vl.1 0 (by omega)
theorem x_chain_n (C : CIv G I R K n x m v w q nx lo M lk sq vl st tp lw sp ap sg B) (hp : bad vl.1 p ∨ bad vl.1 p2) : XC G (d + 3) mX11_chain [.ref x, .int p, .int p2] I J R K n x m (-1) vl st tp lw sp ap sg B := by
  intro Q hQ
  replace hQ := hQ I v w q nx lo M lk sq C (fun _ _ _ => rfl)
  have h6 := C.okv.1.1
  refine zC.of (by decide) (Nat.le_of_ble_eq_true rfl) ?_
  refine wX11_chain_0 x v w q C.X _ _ ?_
  rcases bad_or (N := vl.1) (by omega) p with h | ⟨f, hf, rfl⟩
  · refine c_xf_n C h ?_
    refine ⟨_, _, rfl, rfl, ?_⟩
    exact ⟨fun _ => hQ, fun h => absurd rfl h⟩
  · refine c_xf_y C hf ?_
    refine ⟨_, _, rfl, rfl, ?_⟩
    refine ⟨fun h => absurd h (by decide), fun _ => ?_⟩
    refine c_xf_n C (hp.resolve_left (bad_not (by omega) hf)) ?_
    refine ⟨_, _, rfl, rfl, ?_⟩
    exact ⟨fun _ => hQ, fun h => absurd rfl h⟩
theorem x_chain_y (C : CIv G I R K n x m v w q nx lo M lk sq vl st tp lw sp ap sg B) {f g : Nat} (hf : f < vl.1) (hg : g < vl.1) : XC G (d + 3) mX11_chain [.ref x, .int (nI f), .int (nI g)] I J R K n x m (if f = g then 0 else fV st.1 f g 6 1) vl st tp lw sp ap sg B := by
  intro Q hQ
  replace hQ := hQ I v w q nx lo M lk sq C (fun _ _ _ => rfl)
  have h6 := C.okv.1.1
  refine zC.of (by decide) (Nat.le_of_ble_eq_true rfl) ?_
  refine wX11_chain_0 x v w q C.X _ _ ?_
  refine c_xf_y C hf ?_
  refine ⟨_, _, rfl, rfl, ?_⟩
  refine ⟨fun h => absurd h (by decide), fun _ => ?_⟩
  refine c_xf_y C hg ?_
  refine ⟨_, _, rfl, rfl, ?_⟩
  refine ⟨fun h => absurd h (by decide), fun _ => ?_⟩
  rw [tk_shl f (by omega)]
  refine c_links (X_5 C.X) C.okv.1 C.cs C.oks.1 (to := g) (set := 2 ^ f) (by omega) (Nat.pow_lt_pow_right (m := f) (n := 6) (by decide) (by omega)) ?_
  refine ⟨_, _, rfl, rfl, ?_⟩
  refine qI ?_ hQ
  by_cases e : f = g
  · subst e
    rw [if_pos rfl, linksA, if_pos (by rw [Nat.testBit_two_pow]; simp)]
    rfl
  · rw [if_neg e, chain_eq C.oks.1 h6 (by omega) e]
theorem MIv.m19 {I' : Nat → Nat → Int32} (C : MIv G I J R K n m t c tl tt vl st tp lw sp ap sg B) (f : ∀ q, q ≠ m + 19 → I' q = I q) : MIv G I' J R K n m t c tl tt vl st tp lw sp ap sg B := by
  refine C.same C.S_ (fun b k h => by rw [f b (by unfold scm at h; omega)]) ?_
  unfold LMo
  rw [f m (by omega), f (m + 2) (by omega), f (m + 3) (by omega), f (m + 4) (by omega), f (m + 16) (by omega)]
  exact C.lm_
theorem c_goFar (S : hMod G R K n m t c) {nf : Nat} {Y : Nat → Nat} (W : okV nf Y) (C : MR I (m + 13) T) (O : okT B nf Y T) {f : Nat} (hf : f < 6) (hQ : ∀ I', (∀ g, g < 6 → I' (m + 19) g = fV T f g 6 1) → (∀ b, b ≠ m + 19 → I' b = I b) → Q none (I', J, R, K, n)) : zC G (d + 2) mX12_goFar 0 0 [.ref m, .int (nI f)] (I, J, R, K, n) Q := by
  have h6 := W.1
  refine zC.of (by decide) (Nat.le_of_ble_eq_true rfl) ?_
  refine wX12_goFar_0 m t c S _ ?_
  have outer : ∀ (j i : Nat) (I1 : Nat → Nat → Int32), i + j = 6 → (∀ g, g < 6 → I1 (m + 19) g = fV T f g i 1) → (∀ b, b ≠ m + 19 → I1 b = I b) → zV G (d + 2) mX12_goFar 0 0 27 [(0, .ref m), (1, .int (nI f)), (2, .int (nI (fA T f i))), (3, .int (nI (i + 1)))] [] (I1, J, R, K, n) Q := by
    intro j
    induction j with
    | zero =>
      intro i I1 hi r1 f1
      obtain rfl : i = 6 := by omega
      exact wX12_goFar_27 m t c S _ _ _ ⟨fun _ => hQ I1 r1 f1, fun h => absurd (by decide) h⟩
    | succ j ih =>
      intro i I1 hi r1 f1
      have C1 : MR I1 (m + 13) T := fun k hk => by rw [f1 _ (by omega)]; exact C k hk
      have hfa := fA_lt (f := f) O h6 hf i
      refine wX12_goFar_27 m t c S _ _ _ ⟨fun h => ?_, fun _ => ?_⟩
      · rw [show (6 : Int32) = nI 6 from rfl, tk_lt (by omega) (by omega)] at h
        omega
      have last : ∀ (y g : Nat) (I2 : Nat → Nat → Int32), g + y = 6 → (∀ e, e < 6 → I2 (m + 19) e = if e < g then fV T f e (i + 1) 1 else fV T f e i 1) → (∀ b, b ≠ m + 19 → I2 b = I b) → zV G (d + 2) mX12_goFar 0 0 124 [(0, .ref m), (1, .int (nI f)), (2, .int (nI (fA T f i))), (3, .int (nI (i + 1))), (4, .int (nI (fA T f (i + 1)))), (5, .int (nI g))] [] (I2, J, R, K, n) Q := by
        intro y
        induction y with
        | zero =>
          intro g I2 hg r2 f2
          obtain rfl : g = 6 := by omega
          refine wX12_goFar_124 m t c S _ _ _ _ _ ⟨fun _ => ?_, fun h => absurd (by decide) h⟩
          rw [nI_1]
          exact ih (i + 1) I2 (by omega) (fun e he => by rw [r2 e he, if_pos he]) f2
        | succ y ihy =>
          intro g I2 hg r2 f2
          refine wX12_goFar_124 m t c S _ _ _ _ _ ⟨fun h => ?_, fun _ => ?_⟩
          · rw [show (6 : Int32) = nI 6 from rfl, tk_le (by omega) (by omega)] at h
            omega
          have hfa1 := fA_lt (f := f) O h6 hf (i + 1)
          refine c_has (s := fA T f (i + 1)) (k := g) (by omega) (by omega) ?_
          refine ⟨_, _, rfl, rfl, ?_⟩
          rw [nI_1, tk_c (by omega)]
          have st := fV_step (T := T) (f := f) (g := g) (i := i) (by omega)
          by_cases hb : (fA T f (i + 1)).testBit g = true
          · rw [if_pos hb] at st ⊢
            refine ⟨fun h => absurd h (by decide), fun _ => ⟨(tk_in (by omega) (by omega)).mpr (by omega), ?_⟩⟩
            intro I3 e3
            refine ihy (g + 1) I3 (by omega) (fun e he => ?_) (fun b hb => by rw [e3, zU_off hb]; exact f2 b hb)
            rw [e3, zU_a]
            by_cases e2 : e = g
            · subst e2
              rw [if_pos rfl, if_pos (by omega), st]
            · rw [if_neg e2, r2 e he]
              by_cases h3 : e < g
              · rw [if_pos h3, if_pos (by omega)]
              · rw [if_neg h3, if_neg (by omega)]
          · rw [if_neg hb] at st ⊢
            refine ⟨fun _ => ?_, fun h => absurd rfl h⟩
            refine ihy (g + 1) I2 (by omega) (fun e he => ?_) f2
            rw [r2 e he]
            by_cases e2 : e = g
            · subst e2
              rw [if_neg (by omega), if_pos (by omega), st]
            · by_cases h3 : e < g
              · rw [if_pos h3, if_pos (by omega)]
              · rw [if_neg h3, if_neg (by omega)]
      have mid : ∀ y k : Nat, k + y = 9 → zV G (d + 2) mX12_goFar 0 0 39 [(0, .ref m), (1, .int (nI f)), (2, .int (nI (fA T f i))), (3, .int (nI (i + 1))), (4, .int (nI (rA T (fA T f i) (vA T f i) k))), (5, .int (nI k))] [] (I1, J, R, K, n) Q := by
        intro y
        induction y with
        | zero =>
          intro k hk
          obtain rfl : k = 9 := by omega
          refine wX12_goFar_39 m t c S _ _ _ _ _ ⟨fun _ => ?_, fun h => absurd (by decide) h⟩
          exact last 6 0 I1 (by omega) (fun e he => by rw [if_neg (by omega)]; exact r1 e he) f1
        | succ y ihy =>
          intro k hk
          refine wX12_goFar_39 m t c S _ _ _ _ _ ⟨fun h => ?_, fun _ => ?_⟩
          · rw [show (9 : Int32) = nI 9 from rfl, tk_le (by omega) (by omega)] at h
            omega
          have e := ihy (k + 1) (by omega)
          rw [rA] at e
          by_cases ho : 0 < T (3 * k + 2)
          · have hop : openA T k = true := by simp [openA]; exact ho
            obtain ⟨o1, o2, -⟩ := (O.1 k (by omega)).2 ho
            refine c_mo_y (Mod_26 S) C1 O (p := k) (by omega) ho ?_
            refine ⟨_, _, rfl, rfl, ?_⟩
            refine ⟨fun h => absurd h (by decide), fun _ => ?_⟩
            rw [show (3 : Int32) = nI 3 from rfl, pk_mul, tk_c (by omega), C1 _ (by omega), nI_1, nI_1]
            refine ⟨(tk_in (by omega) (by omega)).mpr (by omega), ?_⟩
            refine c_has (s := fA T f i) (k := T (3 * k)) (by omega) (by omega) ?_
            refine ⟨_, _, rfl, rfl, ?_⟩
            by_cases hb : (fA T f i).testBit (T (3 * k)) = true
            · rw [if_pos hb, tk_c (by omega), C1 _ (by omega), tk_c (by omega), r1 _ (by omega), tk_shl _ (by omega)]
              refine ⟨fun h => absurd h (by decide), fun _ => ⟨(tk_in (by omega) (by omega)).mpr (by omega), (tk_in (by omega) (by omega)).mpr (by omega), fun h => ⟨(tk_in (by omega) (by omega)).mpr (by omega), ?_⟩, fun h => ?_⟩⟩
              · rw [if_pos ⟨hop, hb, (fV_not (by omega)).mp h⟩] at e
                rw [tk_or]
                exact e
              · rw [if_neg (fun h2 => h ((fV_not (by omega)).mpr h2.2.2)), Nat.or_zero] at e
                exact e
            · rw [if_neg hb]
              rw [if_neg (fun h2 => hb h2.2.1), Nat.or_zero] at e
              exact ⟨fun _ => e, fun h => absurd rfl h⟩
          · refine c_mo_n (Mod_26 S) C1 (p := nI k) (Or.inr ⟨k, by omega, rfl, by omega⟩) ?_
            refine ⟨_, _, rfl, rfl, ?_⟩
            rw [if_neg (fun h2 => ho (by have := h2.1; simpa [openA] using this)), Nat.or_zero] at e
            rw [nI_1]
            exact ⟨fun _ => e, fun h => absurd rfl h⟩
      exact mid 9 0 (by omega)
  have first : ∀ (j g : Nat) (I1 : Nat → Nat → Int32), g + j = 6 → (∀ e, e < g → I1 (m + 19) e = -1) → (∀ b, b ≠ m + 19 → I1 b = I b) → zV G (d + 2) mX12_goFar 0 0 2 [(0, .ref m), (1, .int (nI f)), (2, .int (nI g))] [] (I1, J, R, K, n) Q := by
    intro j
    induction j with
    | zero =>
      intro g I1 hg r1 f1
      obtain rfl : g = 6 := by omega
      refine wX12_goFar_2 m t c S _ _ ⟨fun _ => ?_, fun h => absurd (by decide) h⟩
      rw [tk_shl f (by omega)]
      exact outer 6 0 I1 (by omega) r1 f1
    | succ j ih =>
      intro g I1 hg r1 f1
      refine wX12_goFar_2 m t c S _ _ ⟨fun h => ?_, fun _ => ⟨(tk_in (by omega) (by omega)).mpr (by omega), ?_⟩⟩
      · rw [show (6 : Int32) = nI 6 from rfl, tk_le (by omega) (by omega)] at h
        omega
      rw [tk_c (by omega), nI_1]
      intro I2 e2
      refine ih (g + 1) I2 (by omega) (fun e he => ?_) (fun b hb => by rw [e2, zU_off hb]; exact f1 b hb)
      rw [e2, zU_a]
      by_cases h : e = g
      · rw [if_pos h]
      · rw [if_neg h]; exact r1 e (by omega)
  exact first 6 0 I (by omega) (fun e he => absurd he (by omega)) (fun _ _ => rfl)
theorem y_ring (C : MIv G I J R K n m t c tl tt vl st tp lw sp ap sg B) : YC G (d + 3) mX12_ring [.ref m] I J R K n m t c tl tt (ringA st.1 vl.1) vl st tp lw sp ap sg B := by
  intro Q hQ
  have h6 := C.okv_.1.1
  obtain ⟨M1, f1⟩ := C.z0 (y := 0)
  refine zC.of (by decide) (Nat.le_of_ble_eq_true rfl) ?_
  refine wX12_ring_0 m t c C.S_ ?_
  rintro _ rfl
  have loop : ∀ (j f : Nat) (I1 : Nat → Nat → Int32), f + j = vl.1 → (∀ b, b ≠ m + 19 → I1 b = zU I m 0 0 b) → zV G (d + 3) mX12_ring 0 0 9 [(0, .ref m), (1, .int (ringA st.1 f)), (2, .int (nI f))] [] (I1, J, R, K, n) Q := by
    intro j
    induction j with
    | zero =>
      intro f I1 hf g1
      obtain rfl : f = vl.1 := by omega
      have C1 := M1.m19 g1
      refine wX12_ring_9 m t c C.S_ _ _ ⟨fun _ => hQ I1 C1 (fun b hb => by rw [g1 b (by omega)]; exact f1 b hb), fun h => absurd ?_ h⟩
      rw [C1.v_.1.1, tk_le (by omega) (by omega)]
      omega
    | succ j ih =>
      intro f I1 hf g1
      have C1 := M1.m19 g1
      refine wX12_ring_9 m t c C.S_ _ _ ⟨fun h => ?_, fun _ => ?_⟩
      · rw [C1.v_.1.1, tk_le (by omega) (by omega)] at h
        omega
      refine c_goFar C.S_ C.okv_.1 C1.mr C.oks_.1 (f := f) (by omega) ?_
      intro I2 r2 g2
      have hin : vp_in (nI f) 6 := (tk_in (by omega) (by omega)).mpr (by omega)
      have e := ih (f + 1) I2 (by omega) (fun b hb => by rw [g2 b hb]; exact g1 b hb)
      rw [ringA] at e
      refine ⟨_, rfl, rfl, hin, ?_⟩
      rw [tk_c (by omega), r2 f (by omega), nI_1]
      refine ⟨fun h => ?_, fun h => ⟨fun h2 => ⟨hin, ?_⟩, fun h2 => ⟨hin, fun h3 => ?_, fun h3 => ⟨hin, ?_⟩⟩⟩⟩
      · rw [if_pos h] at e; exact e
      · rw [if_neg h, if_pos h2] at e; exact e
      · rw [if_neg h, if_neg h2, if_pos h3] at e; exact e
      · rw [if_neg h, if_neg h2, if_neg h3] at e; exact e
  exact loop vl.1 0 _ (by omega) (fun _ _ => rfl)
theorem y_chain_n (C : MIv G I J R K n m t c tl tt vl st tp lw sp ap sg B) (hp : bad vl.1 p ∨ bad vl.1 p2) : YC G (d + 2) mX12_chain [.ref m, .int p, .int p2] I J R K n m t c tl tt (-1) vl st tp lw sp ap sg B := by
  intro Q hQ
  have h6 := C.okv_.1.1
  obtain ⟨M1, f1⟩ := C.z0 (y := 0)
  replace hQ := hQ _ M1 f1
  refine zC.of (by decide) (Nat.le_of_ble_eq_true rfl) ?_
  refine wX12_chain_0 m t c C.S_ _ _ ?_
  rintro _ rfl
  rcases bad_or (N := vl.1) (by omega) p with h | ⟨f, hf, rfl⟩
  · refine c_mf_n C.S_ M1.v_.1.1 h ?_
    refine ⟨_, _, rfl, rfl, ?_⟩
    exact ⟨fun _ => hQ, fun h => absurd rfl h⟩
  · refine c_mf_y C.S_ M1.v_.1.1 h6 hf ?_
    refine ⟨_, _, rfl, rfl, ?_⟩
    refine ⟨fun h => absurd h (by decide), fun _ => ?_⟩
    refine c_mf_n C.S_ M1.v_.1.1 (hp.resolve_left (bad_not (by omega) hf)) ?_
    refine ⟨_, _, rfl, rfl, ?_⟩
    exact ⟨fun _ => hQ, fun h => absurd rfl h⟩
theorem y_chain_y (C : MIv G I J R K n m t c tl tt vl st tp lw sp ap sg B) {f g : Nat} (hf : f < vl.1) (hg : g < vl.1) : YC G (d + 3) mX12_chain [.ref m, .int (nI f), .int (nI g)] I J R K n m t c tl tt (if f = g then 0 else fV st.1 f g 6 1) vl st tp lw sp ap sg B := by
  intro Q hQ
  have h6 := C.okv_.1.1
  obtain ⟨M1, f1⟩ := C.z0 (y := 0)
  refine zC.of (by decide) (Nat.le_of_ble_eq_true rfl) ?_
  refine wX12_chain_0 m t c C.S_ _ _ ?_
  rintro _ rfl
  refine c_mf_y C.S_ M1.v_.1.1 h6 hf ?_
  refine ⟨_, _, rfl, rfl, ?_⟩
  refine ⟨fun h => absurd h (by decide), fun _ => ?_⟩
  refine c_mf_y C.S_ M1.v_.1.1 h6 hg ?_
  refine ⟨_, _, rfl, rfl, ?_⟩
  refine ⟨fun h => absurd h (by decide), fun _ => ?_⟩
  refine c_goFar C.S_ C.okv_.1 M1.mr C.oks_.1 (f := f) (by omega) ?_
  intro I2 r2 g2
  refine ⟨_, rfl, rfl, fun _ => (tk_in (by omega) (by omega)).mpr (by omega), qI ?_ (hQ I2 (M1.m19 g2) (fun b hb => by rw [g2 b (by omega)]; exact f1 b hb))⟩
  rw [tk_c (by omega), r2 g (by omega)]
  by_cases e : f = g
  · rw [if_pos e, if_pos (by rw [e])]
  · rw [if_neg e, if_neg (fun h => e ((tk_eq (by omega) (by omega)).mp h))]
end
