/-! THE FACE: run -/
/-- a spring run through: z says whether the place of the first step that cannot be is asked, or the yards -/
noncomputable def sprA (Wc : Nat → Nat → Nat → Nat → Nat → Nat → Nat) (nf : Nat) (Y : Nat → Nat) (P : Nat → Int32) (z : Nat) : Nat → Nat → (Nat → Nat) → Nat → Int32
  | 0, _, _, s => if z = 0 then -1 else nI s
  | j + 1, i, T, s => @ite _ (canStep nf Y T (P (3 * i)) (P (3 * i + 1)) (P (3 * i + 2))) (Classical.propDecidable _) (sprA Wc nf Y P z j (i + 1) (stepT Wc nf Y T (P (3 * i)) (P (3 * i + 1)) (P (3 * i + 2))) (s + stepY Wc Y T (P (3 * i)) (P (3 * i + 1)))) (if z = 0 then nI i else nI s)
section
variable {B nf : Nat} {Y T : Nat → Nat} {Wc : Nat → Nat → Nat → Nat → Nat → Nat → Nat} {k a b : Int32}
theorem okT.step (O : okT B nf Y T) (W : okV nf Y) (hB : B + 1 < 100000) (h : canStep nf Y T k a b) : okT (B + 1) nf Y (stepT Wc nf Y T k a b) := by
  have h6 := W.1
  unfold stepT
  rcases h with ⟨rfl, h⟩ | ⟨rfl, f, y, rfl, rfl, hf, h1, h2, h3, h4⟩ | ⟨rfl, f, rfl, hf, h1⟩ | ⟨rfl, h⟩
  · obtain ⟨j, hj, rfl, ho⟩ := (shut_or T a).resolve_left h
    rw [if_pos rfl, tk_c (by omega)]
    exact O.pardon W hB hj ho
  · rw [if_neg (by decide), if_pos rfl, tk_c (by omega), tk_c (by omega)]
    exact (O.daub W hf h3 h4).wide (by omega) hB
  · rw [if_neg (by decide), if_neg (by decide), if_pos rfl, tk_c (by omega)]
    exact (O.thumb W hf).wide (by omega) hB
  · rw [if_neg (by decide), if_neg (by decide), if_neg (by decide)]
    exact (O.day W (by omega)).wide (by omega) hB
theorem step49 (O : okT B nf Y T) (W : okV nf Y) (h : canStep nf Y T k a b) : stepT Wc nf Y T k a b 49 = if k = 3 then T 49 + 1 else T 49 := by
  have h6 := W.1
  unfold stepT
  rcases h with ⟨rfl, h⟩ | ⟨rfl, f, y, rfl, rfl, hf, h1, h2, h3, h4⟩ | ⟨rfl, f, rfl, hf, h1⟩ | ⟨rfl, h⟩
  · obtain ⟨j, hj, rfl, ho⟩ := (shut_or T a).resolve_left h
    obtain ⟨o1, o2, -⟩ := (O.1 j hj).2 ho
    rw [if_pos rfl, if_neg (by decide), tk_c (by omega), pard49 hj (by omega) (by omega)]
  · rw [if_neg (by decide), if_pos rfl, if_neg (by decide), tk_c (by omega), tk_c (by omega)]
    unfold daubT
    rw [up_ne (by omega), up_ne (by omega)]
  · rw [if_neg (by decide), if_neg (by decide), if_pos rfl, if_neg (by decide), tk_c (by omega)]
    unfold thumbT
    rw [up_ne (by omega), up_ne (by omega)]
  · rw [if_neg (by decide), if_neg (by decide), if_neg (by decide), if_pos rfl]
    exact up_at
theorem stepY_le (O : okT B nf Y T) : stepY Wc Y T k a ≤ 999 := by
  have o := O.2.2.2.2
  unfold stepY
  split
  · have := (yardsA_le (Wc := Wc) (Y := Y) (T := T) (p := a.toNatClampNeg)).2
    omega
  · omega
end
section
variable {G : zG} {d : Nat} {I : Nat → Nat → Int32} {J : Nat → Nat → Int64} {R : Nat → Nat → Option Nat} {K : Nat → Nat × Nat} {n : Nat} {x m v w q nx lo M t c : Nat} {lk sq : Nat → Nat} {tl : Nat → Nat} {tt : Nat → Nat → Nat} {vl : Vt} {st : Stt} {tp : Tpt} {lw : Lwt} {sp : Spt} {ap : Nat} {sg : Sgt} {B B' : Nat} {p p2 : Int32} {T : Nat → Nat} {Q : Option Value → zH → Prop}
theorem c_xs (C : CIv G I R K n x m v w q nx lo M lk sq vl st tp lw sp ap sg B) (hQ : Q (some (.int (if p < 0 then 0 else if nI sp.1 ≤ p then 0 else 1))) (I, J, R, K, n)) : zC G (d + 1) mX11_isSpring 0 0 [.ref x, .int p] (I, J, R, K, n) Q := by
  refine zC.of (by decide) (Nat.le_of_ble_eq_true rfl) ?_
  refine wX11_isSpring_0 x v w q C.X _ ?_
  rw [C.cp.2.1]
  exact hQ
theorem c_ys (C : MIv G I J R K n m t c tl tt vl st tp lw sp ap sg B) (hQ : Q (some (.int (if p < 0 then 0 else if nI sp.1 ≤ p then 0 else 1))) (I, J, R, K, n)) : zC G (d + 1) mX12_isPlan 0 0 [.ref m, .int p] (I, J, R, K, n) Q := by
  refine zC.of (by decide) (Nat.le_of_ble_eq_true rfl) ?_
  refine wX12_isPlan_0 m t c C.S_ _ ?_
  rw [C.p_.2.1]
  exact hQ
theorem x_run_n (C : CIv G I R K n x m v w q nx lo M lk sq vl st tp lw sp ap sg B) (hp : ¬ 0 < vl.1 ∨ bad sp.1 p ∨ bad 2 p2) : XC G (d + 2) mX11_run [.ref x, .int p, .int p2] I J R K n x m (-1000000) vl st tp lw sp ap sg B := by
  intro Q hQ
  replace hQ := hQ I v w q nx lo M lk sq C (fun _ _ _ => rfl)
  have h4 := C.cp.1
  refine zC.of (by decide) (Nat.le_of_ble_eq_true rfl) ?_
  refine wX11_run_0 x v w q C.X _ _ ?_
  by_cases hv : 0 < vl.1
  · refine c_hasV_y C hv ?_
    refine ⟨_, _, rfl, rfl, ?_⟩
    refine ⟨fun h => absurd h (by decide), fun _ => ?_⟩
    refine c_xs C ?_
    refine ⟨_, _, rfl, rfl, ?_⟩
    rcases bad_or (N := sp.1) (by omega) p with h | ⟨k, hk, rfl⟩
    · exact ⟨fun _ => hQ, fun h2 => absurd (told_n h) h2⟩
    · refine ⟨fun _ => hQ, fun _ => ⟨fun _ => hQ, fun h1 => ⟨fun h2 => ?_, fun _ => hQ⟩⟩⟩
      have h3 := (hp.resolve_left (fun h => h hv)).resolve_left (bad_not (by omega) hk)
      exact absurd (in_of (N := 1) (by decide) h1 h2 h3) not_false
  · refine c_hasV_n C hv ?_
    refine ⟨_, _, rfl, rfl, ?_⟩
    exact ⟨fun _ => hQ, fun h => absurd rfl h⟩
theorem x_run_y (C : CIv G I R K n x m v w q nx lo M lk sq vl st tp lw sp ap sg B) (hv : 0 < vl.1) {k z : Nat} (hk : k < sp.1) (hz : z < 2) (hB : B + 20 < 100000) : XC G (d + 7) mX11_run [.ref x, .int (nI k), .int (nI z)] I J R K n x m (sprA (aW lw) vl.1 vl.2.1 (sp.2.2 k) z (sp.2.1 k) 0 st.1 0) vl st tp lw sp ap sg B := by
  intro Q hQ
  obtain ⟨h4, -, c3⟩ := C.cp
  obtain ⟨a1, a2, a3⟩ := c3 k hk
  have h16 := a3.1
  have g := C.gm
  have g4 := g.2.2.2.1 k hk
  have g7 := g.2.2.2.2.2.2.1 k hk
  have hg := g.1
  have hz0 : (nI z = 0 ↔ z = 0) := tk_eq (b := 0) (by omega) (by omega)
  refine zC.of (by decide) (Nat.le_of_ble_eq_true rfl) ?_
  refine wX11_run_0 x v w q C.X _ _ ?_
  refine c_hasV_y C hv ?_
  refine ⟨_, _, rfl, rfl, ?_⟩
  refine ⟨fun h => absurd h (by decide), fun _ => ?_⟩
  refine c_xs C ?_
  refine ⟨_, _, rfl, rfl, ?_⟩
  rw [told_y (by omega) hk]
  refine ⟨fun h => absurd h (by decide), fun _ => ⟨fun h => absurd h (nI_pos (by omega)), fun _ => ⟨fun _ => ?_, fun h => absurd ((tk_le (b := 1) (by omega) (by omega)).mpr (by omega)) h⟩⟩⟩
  refine c_copyFrom (X_7 C.X) (X_5 C.X) C.cs (by omega) ?_
  intro I1 cs1 f1
  refine ⟨_, rfl, rfl, (tk_in (by omega) (by omega)).mpr (by omega), ?_⟩
  rw [tk_c (by omega)]
  refine ⟨sq k, a1, a2, ?_⟩
  have loop : ∀ (j i : Nat) (I' : Nat → Nat → Int32) (T : Nat → Nat) (s : Nat), i + j = sp.2.1 k → s ≤ 999 * i → (∀ b k, ¬ scr x w q nx lk lw.1 b k → I' b k = I b k) → CS I' (x + 20) T → okT (B + i) vl.1 vl.2.1 T → sprA (aW lw) vl.1 vl.2.1 (sp.2.2 k) z j i T s = sprA (aW lw) vl.1 vl.2.1 (sp.2.2 k) z (sp.2.1 k) 0 st.1 0 → zV G (d + 7) mX11_run 0 0 52 [(0, .ref x), (1, .int (nI k)), (2, .int (nI z)), (3, .ref (sq k)), (4, .int (nI s)), (5, .int (nI i))] [] (I', J, R, K, n) Q := by
    intro j
    induction j with
    | zero =>
      intro i I' T s hi hs hf cs ok e
      have C' := C.same hf
      have e3 := (C'.cp.2.2 k hk).2.2.2.1
      refine wX11_run_52 x v w q (sq k) C.X a2 _ _ _ _ ⟨fun _ => ?_, fun h => absurd ?_ h⟩
      · refine qI ?_ (hQ I' v w q nx lo M lk sq C' (C.mid hf))
        rw [← e, sprA]
        by_cases h : z = 0
        · rw [if_pos h, if_pos (hz0.mpr h)]
        · rw [if_neg h, if_neg (fun h2 => h (hz0.mp h2))]
      · rw [e3, tk_le (by omega) (by omega)]
        omega
    | succ j ih =>
      intro i I' T s hi hs hf cs ok e
      have C' := C.same hf
      have S3 := (C'.cp.2.2 k hk).2.2
      refine wX11_run_52 x v w q (sq k) C.X a2 _ _ _ _ ⟨fun h => ?_, fun _ => ?_⟩
      · rw [S3.2.1, tk_le (by omega) (by omega)] at h
        omega
      rw [sprA] at e
      refine c_take (X_7 C.X) C'.g2 C'.cv.1 C.okv.1 cs ok C'.lwh a2 S3 (i := i) (by omega) ?_ ?_
      · intro hc I2 cs2 _ F2
        rw [if_pos hc] at e
        have hy := stepY_le (Wc := aW lw) (Y := vl.2.1) (T := T) (k := sp.2.2 k (3 * i)) (a := sp.2.2 k (3 * i + 1)) ok
        refine ⟨_, _, rfl, rfl, fun h => ((tk_m1 (by omega)).mp h).elim, fun _ => ?_⟩
        rw [nI_1, nI_add]
        refine ih (i + 1) I2 _ _ (by omega) (by omega) (fun b y hb => ?_) cs2 (ok.step C.okv.1 (by omega) hc) e
        rw [C'.fr F2 (fun h => hb (by unfold aSt at h; unfold scr; omega)) hb]
        exact hf b y hb
      · intro hc
        rw [if_neg hc] at e
        refine ⟨_, _, rfl, rfl, fun _ => qI ?_ (hQ I' v w q nx lo M lk sq C' (C.mid hf)), fun h => absurd rfl h⟩
        rw [← e]
        by_cases h : z = 0
        · rw [if_pos h, if_pos (hz0.mpr h)]
        · rw [if_neg h, if_neg (fun h2 => h (hz0.mp h2))]
  exact loop (sp.2.1 k) 0 I1 st.1 0 (by omega) (by omega) (fun b k hb => by rw [f1 b (fun h => hb (by unfold scr; omega))]) cs1 C.oks.1 rfl
theorem y_run_n (C : MIv G I J R K n m t c tl tt vl st tp lw sp ap sg B) (hp : ¬ 0 < vl.1 ∨ bad sp.1 p ∨ bad 2 p2) : YL G (d + 2) mX12_run [.ref m, .int p, .int p2] I J R K n m tl tt (-1000000) vl st tp lw sp ap sg B := by
  intro Q hQ
  obtain ⟨M1, f1⟩ := C.z0 (y := 0)
  replace hQ := hQ _ J R t c M1 (fun b hb => ⟨f1 b hb, rfl⟩) (fun _ _ => rfl)
  have h4 := C.p_.1
  have h6 := C.okv_.1.1
  refine zC.of (by decide) (Nat.le_of_ble_eq_true rfl) ?_
  refine wX12_run_0 m t c C.S_ _ _ ?_
  rintro _ rfl
  refine c_ys M1 ?_
  refine ⟨_, _, rfl, rfl, ?_⟩
  rcases bad_or (N := sp.1) (by omega) p with h | ⟨k, hk, rfl⟩
  · exact ⟨fun _ => hQ, fun h2 => absurd (told_n h) h2⟩
  · refine ⟨fun _ => hQ, fun _ => ⟨fun _ => hQ, fun h0 => ?_⟩⟩
    rw [M1.v_.1.1] at h0
    have h3 := (hp.resolve_left (fun h => h0 (by rw [show vl.1 = 0 by omega]; rfl))).resolve_left (bad_not (by omega) hk)
    refine c_in_n (N := 2) (by decide) (by decide) h3 ?_
    refine ⟨_, _, rfl, rfl, ?_⟩
    exact ⟨fun _ => hQ, fun h => absurd rfl h⟩
theorem y_run_y (C : MIv G I J R K n m t c tl tt vl st tp lw sp ap sg B) (hv : 0 < vl.1) {k z : Nat} (hk : k < sp.1) (hz : z < 2) (hB : B + 20 < 100000) : YL G (d + 38) mX12_run [.ref m, .int (nI k), .int (nI z)] I J R K n m tl tt (sprA (aW lw) vl.1 vl.2.1 (sp.2.2 k) z (sp.2.1 k) 0 st.1 0) vl st tp lw sp ap sg B := by
  intro Q hQ
  obtain ⟨M1, f1⟩ := C.z0 (y := 0)
  obtain ⟨h4, -, c3⟩ := C.p_
  obtain ⟨h16, -, -⟩ := c3 k hk
  have h6 := C.okv_.1.1
  have hz1 : (nI z = 1 ↔ z = 1) := tk_eq (b := 1) (by omega) (by omega)
  have hk5 : vp_in (nI k) 5 := (tk_in (by omega) (by omega)).mpr (by omega)
  refine zC.of (by decide) (Nat.le_of_ble_eq_true rfl) ?_
  refine wX12_run_0 m t c C.S_ _ _ ?_
  rintro _ rfl
  refine c_ys M1 ?_
  refine ⟨_, _, rfl, rfl, ?_⟩
  rw [told_y (by omega) hk]
  refine ⟨fun h => absurd h (by decide), fun _ => ⟨fun h => ?_, fun _ => ?_⟩⟩
  · rw [M1.v_.1.1, show (0 : Int32) = nI 0 from rfl, tk_eq (by omega) (by omega)] at h
    omega
  refine c_in_y (N := 2) (by decide) (by decide) hz ?_
  refine ⟨_, _, rfl, rfl, ?_⟩
  refine ⟨fun h => absurd h (by decide), fun _ => ?_⟩
  refine c_copy (Mod_26 C.S_) (Mod_28 C.S_) (by omega) M1.mr ?_
  intro I1 r1 e50 g1
  refine ⟨_, rfl, rfl, ?_⟩
  have e3 : ∀ i : Nat, (3 * (16 * nI k + nI i) : Int32) = nI (3 * (16 * k + i)) := fun i => by rw [show (16 : Int32) = nI 16 from rfl, show (3 : Int32) = nI 3 from rfl, pk_mul, nI_add, pk_mul]
  have loop : ∀ (j i : Nat) (I' : Nat → Nat → Int32) (J' : Nat → Nat → Int64) (R' : Nat → Nat → Option Nat) (t' c' : Nat) (T : Nat → Nat) (s l : Nat), i + j = sp.2.1 k → MIv G I' J' R' K n m t' c' tl tt vl st tp lw sp ap sg B → MF m I I' J J' R R' → MR I' (m + 14) T → l ≤ 60 → I' (m + 14) 50 = nI l → okT (B + i) vl.1 vl.2.1 T → sprA (aW lw) vl.1 vl.2.1 (sp.2.2 k) z j i T s = sprA (aW lw) vl.1 vl.2.1 (sp.2.2 k) z (sp.2.1 k) 0 st.1 0 → zV G (d + 38) mX12_run 0 0 50 [(0, .ref m), (1, .int (nI k)), (2, .int (nI z)), (3, .int (nI i)), (4, .int (nI s))] [] (I', J', R', K, n) Q := by
    intro j
    induction j with
    | zero =>
      intro i I' J' R' t' c' T s l hi C' F' r' hl h50 ok e
      obtain ⟨-, e12, -⟩ := C'.p_.2.2 k hk
      rw [sprA] at e
      refine wX12_run_50 m t' c' C'.S_ _ _ _ _ ⟨hk5, ?_⟩
      rw [tk_c (by omega), e12]
      refine ⟨fun _ => ⟨fun h => ?_, fun h => ⟨hk5, ?_⟩⟩, fun h => absurd ((tk_le (by omega) (by omega)).mpr (by omega)) h⟩
      · have h1 := hz1.mp h
        rw [if_neg (by omega)] at e
        exact qI e.symm (hQ I' J' R' t' c' C' F'.1 F'.2)
      · have h1 : z = 0 := by
          have : ¬ z = 1 := fun h2 => h (hz1.mpr h2)
          omega
        rw [if_pos h1] at e
        rw [if_pos (by rw [tk_eq (by omega) (by omega)]; omega)]
        exact qI e.symm (hQ I' J' R' t' c' C' F'.1 F'.2)
    | succ j ih =>
      intro i I' J' R' t' c' T s l hi C' F' r' hl h50 ok e
      obtain ⟨-, e12, st3⟩ := C'.p_.2.2 k hk
      obtain ⟨x1, x2, x3, x4⟩ := st3 i (by omega)
      rw [sprA] at e
      refine wX12_run_50 m t' c' C'.S_ _ _ _ _ ⟨hk5, ?_⟩
      rw [tk_c (by omega), e12]
      refine ⟨fun h => ?_, fun _ => ?_⟩
      · rw [tk_le (by omega) (by omega)] at h
        omega
      rw [e3]
      refine c_mcanStep C'.S_ (Mod_28 C'.S_) C'.v_.1 C.okv_.1 r' ok (k := k) (i := i) (P := sp.2.2 k) (by omega) (by omega) x1 x2 x3 x4 ?_ ?_
      · intro hc
        rw [if_pos hc] at e
        refine ⟨_, _, rfl, rfl, fun h => absurd h (by decide), fun _ => ?_⟩
        refine c_mgoStep C'.S_ (Mod_28 C'.S_) (Or.inr rfl) C'.lm_ C'.hld C'.v_.1 C.okv_.1 r' ok hl h50 (k := k) (i := i) (P := sp.2.2 k) (by omega) (by omega) x1 x2 x3 hc ?_
        intro I2 J2 R2 t2 c2 S2 L2 F2 r2 k2 l2
        refine ⟨_, _, _, _, rfl, rfl, _, _, S2, ?_⟩
        obtain ⟨M2, g2, g3⟩ := C'.fmo S2 L2 F2
        rw [nI_1, nI_add]
        obtain ⟨l', hl', h50'⟩ : ∃ l', l' ≤ 60 ∧ I2 (m + 14) 50 = nI l' := by
          by_cases h3 : sp.2.2 k (3 * i) = 3
          · obtain ⟨j', q1, q2, q3, -⟩ := l2 h3
            exact ⟨j' + 1, by omega, q3⟩
          · exact ⟨l, hl, by rw [k2 h3 50 (by omega)]; exact h50⟩
        exact ih (i + 1) I2 J2 R2 t2 c2 _ _ l' (by omega) M2 (F'.tr ⟨g2, g3⟩) r2 hl' h50' (ok.step C.okv_.1 (by omega) hc) e
      · intro hc
        rw [if_neg hc] at e
        refine ⟨_, _, rfl, rfl, fun _ => ⟨fun h => ?_, fun h => ⟨hk5, ?_⟩⟩, fun h => absurd rfl h⟩
        · have h1 := hz1.mp h
          rw [if_neg (by omega)] at e
          exact qI e.symm (hQ I' J' R' t' c' C' F'.1 F'.2)
        · have h1 : z = 0 := by
            have : ¬ z = 1 := fun h2 => h (hz1.mpr h2)
            omega
          rw [if_pos h1] at e
          rw [e12, if_neg (by rw [tk_eq (by omega) (by omega)]; omega)]
          exact qI e.symm (hQ I' J' R' t' c' C' F'.1 F'.2)
  exact loop (sp.2.1 k) 0 I1 J R t c st.1 0 0 (by omega) (M1.m14 g1) (MF.z (fun b hb => by rw [g1 b (by omega)]; exact f1 b hb)) r1 (by omega) e50 C.oks_.1 rfl
end
