/-! THE FACE: rests: the class -/
def uA (vl : Vt) (lw : Lwt) (T : Nat → Nat) (f g a b : Nat) : Int32 := gainA T (plyT vl lw T f g a b) f a
def wAy (vl : Vt) (lw : Lwt) (T : Nat → Nat) (f g a b : Nat) : Int32 := gainA T (plyT vl lw T f g a b) g b
/-- neither would choose otherwise -/
def rsA (U V : Nat → Nat → Int32) (a b : Nat) : Nat → Nat → Bool
  | 0, _ => true
  | j + 1, c => if U a b < U c b then false else if V a c ≤ V a b then rsA U V a b j (c + 1) else false
def rstB (U V : Nat → Nat → Int32) (q : Nat) : Bool := rsA U V (q / 3) (q % 3) 3 0
def rstN (g : Nat → Bool) (p : Int32) : Nat → Nat → Nat → Int32
  | 0, _, _ => -1
  | j + 1, q, k => if g q = true then (if nI k = p then nI (10 * (q / 3) + q % 3) else rstN g p j (q + 1) (k + 1)) else rstN g p j (q + 1) k
section
variable {G : zG} {d : Nat} {I : Nat → Nat → Int32} {J : Nat → Nat → Int64} {R : Nat → Nat → Option Nat} {K : Nat → Nat × Nat} {n : Nat} {x m v w q nx lo M t c : Nat} {lk sq : Nat → Nat} {vl : Vt} {st : Stt} {tp : Tpt} {lw : Lwt} {sp : Spt} {ap : Nat} {sg : Sgt} {B : Nat} {p p1 p2 p3 : Int32} {I1 : Nat → Nat → Int32} {U V : Nat → Nat → Int32} {Q : Option Value → zH → Prop}
theorem c_isRest (C : CIv G I R K n x m v w q nx lo M lk sq vl st tp lw sp ap sg B) (hU : ∀ a b, a < 3 → b < 3 → I1 (x + 89 + a) b = U a b ∧ I1 (x + 93 + a) b = V a b) {a b : Nat} (ha : a < 3) (hb : b < 3) (hQ : Q (some (.int (if rsA U V a b 3 0 = true then 1 else 0))) (I1, J, R, K, n)) : zC G (d + 1) mX0_isRest 0 0 [.ref (x + 87), .int (nI a), .int (nI b)] (I1, J, R, K, n) Q := by
  have hin : ∀ y, y < 3 → vp_in (nI y) 3 := fun y hy => (tk_in (by omega) (by omega)).mpr hy
  refine zC.of (by decide) (Nat.le_of_ble_eq_true rfl) ?_
  refine wX0_isRest_0 (x + 87) (x + 12) (x + 20) (x + 3) v (X_15 C.X) _ _ ?_
  have loop : ∀ j i : Nat, i + j = 3 → Q (some (.int (if rsA U V a b j i = true then 1 else 0))) (I1, J, R, K, n) → zV G (d + 1) mX0_isRest 0 0 2 [(0, .ref (x + 87)), (1, .int (nI a)), (2, .int (nI b)), (3, .int (nI i))] [] (I1, J, R, K, n) Q := by
    intro j
    induction j with
    | zero =>
      intro i hi hq
      obtain rfl : i = 3 := by omega
      exact wX0_isRest_2 (x + 87) (x + 12) (x + 20) (x + 3) v (X_15 C.X) _ _ _ ⟨fun _ => hq, fun h => absurd (by decide) h⟩
    | succ j ih =>
      intro i hi hq
      rw [rsA] at hq
      refine wX0_isRest_2 (x + 87) (x + 12) (x + 20) (x + 3) v (X_15 C.X) _ _ _ ⟨fun h => ?_, fun _ => ?_⟩
      · rw [show (3 : Int32) = nI 3 from rfl, tk_le (by omega) (by omega)] at h
        omega
      rw [tk_c (by omega), tk_c (by omega), tk_c (by omega), show x + 87 + 2 = x + 89 from rfl, show x + 87 + 6 = x + 93 from rfl, (hU a b ha hb).1, (hU i b (by omega) hb).1, (hU a i ha (by omega)).2, (hU a b ha hb).2, nI_1]
      refine ⟨hin i (by omega), hin b hb, hin a ha, hin b hb, fun h => ?_, fun h => ⟨hin a ha, hin i (by omega), hin a ha, hin b hb, fun h2 => ?_, fun h2 => ?_⟩⟩
      · rw [if_pos h] at hq; exact hq
      · rw [if_neg h, if_pos h2] at hq; exact ih (i + 1) (by omega) hq
      · rw [if_neg h, if_neg h2] at hq; exact hq
  exact loop 3 0 (by omega) hQ
theorem c_findRests (C : CIv G I R K n x m v w q nx lo M lk sq vl st tp lw sp ap sg B) {f g : Nat} (hf : f < vl.1) (hg : g < vl.1) (hB : B + 20 < 100000) (hQ : ∀ I' k, k ≤ 9 → (∀ b k, ¬ scr x w q nx lk lw.1 b k → I' b k = I b k) → I' (x + 87) 3 = nI k → k = cntB (rstB (uA vl lw st.1 f g) (wAy vl lw st.1 f g)) 9 0 0 → (∀ i, i < k → I' (x + 96) i = rstN (rstB (uA vl lw st.1 f g) (wAy vl lw st.1 f g)) (nI i) 9 0 0) → (∀ p : Int32, (∀ i, i < k → p ≠ nI i) → rstN (rstB (uA vl lw st.1 f g) (wAy vl lw st.1 f g)) p 9 0 0 = -1) → Q none (I', J, R, K, n)) : zC G (d + 7) mX0_findRests 0 0 [.ref (x + 87), .int (nI f), .int (nI g)] (I, J, R, K, n) Q := by
  have h6 := C.okv.1.1
  obtain ⟨U, eU⟩ : ∃ y, y = uA vl lw st.1 f g := ⟨_, rfl⟩
  obtain ⟨V, eV⟩ : ∃ y, y = wAy vl lw st.1 f g := ⟨_, rfl⟩
  rw [← eU, ← eV] at hQ
  refine zC.of (by decide) (Nat.le_of_ble_eq_true rfl) ?_
  refine wX0_findRests_0 (x + 87) (x + 12) (x + 20) (x + 3) v (X_15 C.X) _ _ ?_
  have ph2 : ∀ (j i : Nat) (I2 : Nat → Nat → Int32) (k : Nat), i + j = 9 → k ≤ i → (∀ b k, ¬ scr x w q nx lk lw.1 b k → I2 b k = I b k) → (∀ a b, a < 3 → b < 3 → I2 (x + 89 + a) b = U a b ∧ I2 (x + 93 + a) b = V a b) → I2 (x + 87) 3 = nI k → cntB (rstB U V) 9 0 0 = cntB (rstB U V) j i k → (∀ i, i < k → I2 (x + 96) i = rstN (rstB U V) (nI i) 9 0 0) → (∀ p : Int32, (∀ i, i < k → p ≠ nI i) → rstN (rstB U V) p 9 0 0 = rstN (rstB U V) p j i k) → (i < 9 → zV G (d + 7) mX0_findRests 0 0 52 [(0, .ref (x + 87)), (1, .int (nI f)), (2, .int (nI g)), (3, .int (nI (i / 3))), (4, .int (nI (i % 3)))] [] (I2, J, R, K, n) Q) ∧ (i = 9 → zV G (d + 7) mX0_findRests 0 0 44 [(0, .ref (x + 87)), (1, .int (nI f)), (2, .int (nI g)), (3, .int (nI 3))] [] (I2, J, R, K, n) Q) := by
    intro j
    induction j with
    | zero =>
      intro i I2 k hi hk h2 hU e3 ec el en
      refine ⟨fun h => absurd h (by omega), fun _ => ?_⟩
      refine wX0_findRests_44 (x + 87) (x + 12) (x + 20) (x + 3) v (X_15 C.X) _ _ _ ⟨fun _ => ?_, fun h => absurd (by decide) h⟩
      exact hQ I2 k (by omega) h2 e3 (by rw [ec]; rfl) el (fun p hp => by rw [en p hp]; rfl)
    | succ j ih =>
      intro i I2 k hi hk h2 hU e3 ec el en
      refine ⟨fun _ => ?_, fun h => absurd h (by omega)⟩
      have C2 := C.same h2
      have nxt : ∀ (I3 : Nat → Nat → Int32) (k3 : Nat), k3 ≤ i + 1 → (∀ b k, ¬ scr x w q nx lk lw.1 b k → I3 b k = I b k) → (∀ a b, a < 3 → b < 3 → I3 (x + 89 + a) b = U a b ∧ I3 (x + 93 + a) b = V a b) → I3 (x + 87) 3 = nI k3 → cntB (rstB U V) 9 0 0 = cntB (rstB U V) j (i + 1) k3 → (∀ i, i < k3 → I3 (x + 96) i = rstN (rstB U V) (nI i) 9 0 0) → (∀ p : Int32, (∀ i, i < k3 → p ≠ nI i) → rstN (rstB U V) p 9 0 0 = rstN (rstB U V) p j (i + 1) k3) → zV G (d + 7) mX0_findRests 0 0 52 [(0, .ref (x + 87)), (1, .int (nI f)), (2, .int (nI g)), (3, .int (nI (i / 3))), (4, .int (nI (i % 3 + 1)))] [] (I3, J, R, K, n) Q := by
        intro I3 k3 a1 a2 a3 a4 a5 a6 a7
        obtain ⟨n1, n2⟩ := ih (i + 1) I3 k3 (by omega) a1 a2 a3 a4 a5 a6 a7
        by_cases hm : i % 3 = 2
        · refine wX0_findRests_52 (x + 87) (x + 12) (x + 20) (x + 3) v (X_15 C.X) _ _ _ _ ⟨fun _ => ?_, fun h => absurd ((tk_le (a := 3) (by omega) (by omega)).mpr (by omega)) h⟩
          rw [nI_1]
          by_cases h9 : i + 1 = 9
          · have := n2 h9
            rw [show i / 3 + 1 = 3 by omega]
            exact this
          · have := n1 (by omega)
            rw [show (i + 1) / 3 = i / 3 + 1 by omega, show (i + 1) % 3 = 0 by omega] at this
            refine wX0_findRests_44 (x + 87) (x + 12) (x + 20) (x + 3) v (X_15 C.X) _ _ _ ⟨fun h => ?_, fun _ => this⟩
            rw [show (3 : Int32) = nI 3 from rfl, tk_le (by omega) (by omega)] at h
            omega
        · have := n1 (by omega)
          rw [show (i + 1) / 3 = i / 3 by omega, show (i + 1) % 3 = i % 3 + 1 by omega] at this
          exact this
      refine wX0_findRests_52 (x + 87) (x + 12) (x + 20) (x + 3) v (X_15 C.X) _ _ _ _ ⟨fun h => ?_, fun _ => ?_⟩
      · rw [show (3 : Int32) = nI 3 from rfl, tk_le (by omega) (by omega)] at h
        omega
      refine c_isRest C hU (a := i / 3) (b := i % 3) (by omega) (by omega) ?_
      refine ⟨_, _, rfl, rfl, ?_⟩
      replace ec := ec.trans (show cntB (rstB U V) (j + 1) i k = cntB (rstB U V) j (i + 1) (if rstB U V i = true then k + 1 else k) from rfl)
      rw [nI_1]
      by_cases hr : rstB U V i = true
      · rw [if_pos (show rsA U V (i / 3) (i % 3) 3 0 = true from hr)]
        rw [if_pos hr] at ec
        refine ⟨fun h => absurd h (by decide), fun _ => ?_⟩
        rw [e3, tk_c (by omega)]
        refine ⟨(tk_in (by omega) (by omega)).mpr (by omega), ?_⟩
        intro I3 f3 I4 f4
        have f33 : I3 (x + 87) 3 = nI k := by rw [f3, zU_off (by omega)]; exact e3
        rw [f33, nI_1] at f4
        rw [show (10 * nI (i / 3) + nI (i % 3) : Int32) = nI (10 * (i / 3) + i % 3) by rw [show (10 : Int32) = nI 10 from rfl, pk_mul, nI_add]] at f3
        have ek : rstN (rstB U V) (nI k) 9 0 0 = nI (10 * (i / 3) + i % 3) := by
          rw [en (nI k) (fun y hy h => by have := (tk_eq (by omega) (by omega)).mp h; omega), rstN, if_pos hr, if_pos rfl]
        refine nxt I4 (k + 1) (by omega) (fun b y hb => by rw [f4, zU_off (fun e => hb (by unfold scr; omega)), f3, zU_off (fun e => hb (by unfold scr; omega))]; exact h2 b y hb) (fun a b ha hb => by rw [f4, zU_off (by omega), zU_off (by omega), f3, zU_off (by omega), zU_off (by omega)]; exact hU a b ha hb) (by rw [f4, zU_self]) ec (fun y hy => ?_) (fun p hp => ?_)
        · rw [f4, zU_off (by omega), f3, zU_a]
          by_cases h : y = k
          · subst h; rw [if_pos rfl, ek]
          · rw [if_neg h]; exact el y (by omega)
        · rw [en p (fun y hy => hp y (by omega)), rstN, if_pos hr, if_neg (fun h => hp k (by omega) h.symm)]
      · rw [if_neg (show ¬ rsA U V (i / 3) (i % 3) 3 0 = true from hr)]
        rw [if_neg hr] at ec
        refine ⟨fun _ => ?_, fun h => absurd rfl h⟩
        refine nxt I2 k (by omega) h2 hU e3 ec el (fun p hp => ?_)
        rw [en p hp, rstN, if_neg hr]
  have ph1 : ∀ (j i : Nat) (I2 : Nat → Nat → Int32), i + j = 9 → (∀ b k, ¬ scr x w q nx lk lw.1 b k → I2 b k = I b k) → (∀ a b, a < 3 → b < 3 → 3 * a + b < i → I2 (x + 89 + a) b = U a b ∧ I2 (x + 93 + a) b = V a b) → (i < 9 → zV G (d + 7) mX0_findRests 0 0 10 [(0, .ref (x + 87)), (1, .int (nI f)), (2, .int (nI g)), (3, .int (nI (i / 3))), (4, .int (nI (i % 3)))] [] (I2, J, R, K, n) Q) ∧ (i = 9 → zV G (d + 7) mX0_findRests 0 0 2 [(0, .ref (x + 87)), (1, .int (nI f)), (2, .int (nI g)), (3, .int (nI 3))] [] (I2, J, R, K, n) Q) := by
    intro j
    induction j with
    | zero =>
      intro i I2 hi h2 hU
      refine ⟨fun h => absurd h (by omega), fun _ => ?_⟩
      refine wX0_findRests_2 (x + 87) (x + 12) (x + 20) (x + 3) v (X_15 C.X) _ _ _ ⟨fun _ => ?_, fun h => absurd (by decide) h⟩
      intro I3 e3
      have := (ph2 9 0 I3 0 (by omega) (by omega) (fun b y hb => by rw [e3, zU_off (fun e => hb (by unfold scr; omega))]; exact h2 b y hb) (fun a b ha hb => by rw [e3, zU_off (by omega), zU_off (by omega)]; exact hU a b ha hb (by omega)) (by rw [e3, zU_self]; rfl) rfl (fun y hy => absurd hy (by omega)) (fun _ _ => rfl)).1 (by omega)
      exact wX0_findRests_44 (x + 87) (x + 12) (x + 20) (x + 3) v (X_15 C.X) _ _ _ ⟨fun h => absurd h (by decide), fun _ => this⟩
    | succ j ih =>
      intro i I2 hi h2 hU
      refine ⟨fun _ => ?_, fun h => absurd h (by omega)⟩
      refine wX0_findRests_10 (x + 87) (x + 12) (x + 20) (x + 3) v (X_15 C.X) _ _ _ _ ⟨fun h => ?_, fun _ => ?_⟩
      · rw [show (3 : Int32) = nI 3 from rfl, tk_le (by omega) (by omega)] at h
        omega
      refine c_play C h2 hf hg (a := i / 3) (b := i % 3) (by omega) (by omega) hB ?_
      intro I3 h3 k3 u3 v3
      refine ⟨_, rfl, rfl, ?_⟩
      rw [nI_1]
      have hU3 : ∀ a b, a < 3 → b < 3 → 3 * a + b < i + 1 → I3 (x + 89 + a) b = U a b ∧ I3 (x + 93 + a) b = V a b := fun a b ha hb hab => by
        by_cases e : 3 * a + b = i
        · obtain rfl : a = i / 3 := by omega
          obtain rfl : b = i % 3 := by omega
          rw [u3, v3, eU, eV]
          exact ⟨rfl, rfl⟩
        · rw [k3 _ _ (by omega) (by omega) (by omega) (by omega), k3 _ _ (by omega) (by omega) (by omega) (by omega)]
          exact hU a b ha hb (by omega)
      obtain ⟨n1, n2⟩ := ih (i + 1) I3 (by omega) h3 hU3
      by_cases hm : i % 3 = 2
      · refine wX0_findRests_10 (x + 87) (x + 12) (x + 20) (x + 3) v (X_15 C.X) _ _ _ _ ⟨fun _ => ?_, fun h => absurd ((tk_le (a := 3) (by omega) (by omega)).mpr (by omega)) h⟩
        rw [nI_1]
        by_cases h9 : i + 1 = 9
        · have := n2 h9
          rw [show i / 3 + 1 = 3 by omega]
          exact this
        · have := n1 (by omega)
          rw [show (i + 1) / 3 = i / 3 + 1 by omega, show (i + 1) % 3 = 0 by omega] at this
          refine wX0_findRests_2 (x + 87) (x + 12) (x + 20) (x + 3) v (X_15 C.X) _ _ _ ⟨fun h => ?_, fun _ => this⟩
          rw [show (3 : Int32) = nI 3 from rfl, tk_le (by omega) (by omega)] at h
          omega
      · have := n1 (by omega)
        rw [show (i + 1) / 3 = i / 3 by omega, show (i + 1) % 3 = i % 3 + 1 by omega] at this
        exact this
  have := (ph1 9 0 I (by omega) (fun _ _ _ => rfl) (fun a b ha hb h => absurd h (by omega))).1 (by omega)
  exact wX0_findRests_2 (x + 87) (x + 12) (x + 20) (x + 3) v (X_15 C.X) _ _ _ ⟨fun h => absurd h (by decide), fun _ => this⟩
theorem x_rests_n (C : CIv G I R K n x m v w q nx lo M lk sq vl st tp lw sp ap sg B) (hn : ¬ areTwo vl.1 p1 p2) : XC G (d + 3) mX11_rests [.ref x, .int p1, .int p2, .int p3] I J R K n x m (-1) vl st tp lw sp ap sg B := by
  intro Q hQ
  replace hQ := hQ I v w q nx lo M lk sq C (fun _ _ _ => rfl)
  have h6 := C.okv.1.1
  refine zC.of (by decide) (Nat.le_of_ble_eq_true rfl) ?_
  refine wX11_rests_0 x v w q C.X _ _ _ ?_
  rcases bad_or (N := vl.1) (by omega) p1 with h | ⟨f, hf, rfl⟩
  · refine c_xf_n C h ?_
    refine ⟨_, _, rfl, rfl, ?_⟩
    exact ⟨fun _ => hQ, fun h => absurd rfl h⟩
  refine c_xf_y C hf ?_
  refine ⟨_, _, rfl, rfl, ?_⟩
  refine ⟨fun h => absurd h (by decide), fun _ => ?_⟩
  rcases bad_or (N := vl.1) (by omega) p2 with h | ⟨g, hg, rfl⟩
  · refine c_xf_n C h ?_
    refine ⟨_, _, rfl, rfl, ?_⟩
    exact ⟨fun _ => hQ, fun h => absurd rfl h⟩
  refine c_xf_y C hg ?_
  refine ⟨_, _, rfl, rfl, ?_⟩
  exact ⟨fun h => absurd h (by decide), fun _ => ⟨fun _ => hQ, fun hfg => absurd ⟨f, g, hf, hg, fun h => hfg (by rw [h]), rfl, rfl⟩ hn⟩⟩
def restA (vl : Vt) (lw : Lwt) (T : Nat → Nat) (f g : Nat) (p : Int32) : Int32 := if p = -1 then nI (cntB (rstB (uA vl lw T f g) (wAy vl lw T f g)) 9 0 0) else rstN (rstB (uA vl lw T f g) (wAy vl lw T f g)) p 9 0 0
theorem x_rests_y (C : CIv G I R K n x m v w q nx lo M lk sq vl st tp lw sp ap sg B) {f g : Nat} (hf : f < vl.1) (hg : g < vl.1) (hfg : f ≠ g) (hB : B + 20 < 100000) : XC G (d + 8) mX11_rests [.ref x, .int (nI f), .int (nI g), .int p3] I J R K n x m (restA vl lw st.1 f g p3) vl st tp lw sp ap sg B := by
  intro Q hQ
  have h6 := C.okv.1.1
  refine zC.of (by decide) (Nat.le_of_ble_eq_true rfl) ?_
  refine wX11_rests_0 x v w q C.X _ _ _ ?_
  refine c_xf_y C hf ?_
  refine ⟨_, _, rfl, rfl, ?_⟩
  refine ⟨fun h => absurd h (by decide), fun _ => ?_⟩
  refine c_xf_y C hg ?_
  refine ⟨_, _, rfl, rfl, ?_⟩
  refine ⟨fun h => absurd h (by decide), fun _ => ⟨fun h => absurd ((tk_eq (by omega) (by omega)).mp h) hfg, fun _ => ?_⟩⟩
  refine c_findRests C hf hg hB ?_
  intro I' k hk h' e3 ek el en
  refine ⟨_, rfl, rfl, ?_⟩
  replace hQ := hQ I' v w q nx lo M lk sq (C.same h') (C.mid h')
  unfold restA at hQ
  rw [e3]
  refine ⟨fun h => ?_, fun h => ?_⟩
  · rw [if_pos h, ← ek] at hQ
    exact hQ
  · rw [if_neg h] at hQ
    rcases bad_or (N := k) (by omega) p3 with hb | ⟨i, hi, rfl⟩
    · rw [en p3 (fun i hi e => absurd hb (by rw [e]; exact bad_not (by omega) hi))] at hQ
      refine ⟨fun h1 h2 => ?_, qI ?_ hQ⟩
      · rcases hb with hb | hb
        · exact absurd hb h1
        · exact absurd hb h2
      · rcases hb with hb | hb
        · rw [if_pos hb]
        · rw [if_pos hb, ite_self]
    · rw [← el i hi] at hQ
      refine ⟨fun _ _ => (tk_in (by omega) (by omega)).mpr (by omega), qI ?_ hQ⟩
      rw [if_neg (nI_pos (by omega)), if_neg (by rw [tk_le (by omega) (by omega)]; omega), tk_c (by omega)]
end
