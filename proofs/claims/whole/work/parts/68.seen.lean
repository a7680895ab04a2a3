/-! THE FACE: fades, seen -/
/-- on which day from now a farm is bare of paint: a true, b false white yards -/
def fadeA : Nat → Nat → Nat → Nat → Nat → Int32
  | 0, _, _, _, _ => -1
  | j + 1, k, a, b, day => if a + b = 0 then nI k else fadeA j (k + 1) (if day % 3 = 2 then a - 1 else a) (b - (b + 1) / 2) (day + 1)
section
variable {G : zG} {d : Nat} {I : Nat → Nat → Int32} {J : Nat → Nat → Int64} {R : Nat → Nat → Option Nat} {K : Nat → Nat × Nat} {n : Nat} {x m v w q nx lo M t c : Nat} {lk sq : Nat → Nat} {tl : Nat → Nat} {tt : Nat → Nat → Nat} {vl : Vt} {st : Stt} {tp : Tpt} {lw : Lwt} {sp : Spt} {ap : Nat} {sg : Sgt} {B B' : Nat} {p p2 p3 : Int32} {T : Nat → Nat} {Q : Option Value → zH → Prop}
theorem x_fades_n (C : CIv G I R K n x m v w q nx lo M lk sq vl st tp lw sp ap sg B) (hp : bad vl.1 p) : XC G (d + 3) mX11_fades [.ref x, .int p] I J R K n x m (-1) vl st tp lw sp ap sg B := by
  intro Q hQ
  replace hQ := hQ I v w q nx lo M lk sq C (fun _ _ _ => rfl)
  refine zC.of (by decide) (Nat.le_of_ble_eq_true rfl) ?_
  refine wX11_fades_0 x v w q C.X _ ?_
  refine c_xf_n C hp ?_
  refine ⟨_, _, rfl, rfl, ?_⟩
  exact ⟨fun _ => hQ, fun h => absurd rfl h⟩
theorem day27 {nf f : Nat} {Y T : Nat → Nat} (h6 : nf ≤ 6) (hf : f < nf) : dayT nf Y T (27 + 3 * f) = (if T 49 % 3 = 2 then T (27 + 3 * f) - 1 else T (27 + 3 * f)) := by
  unfold dayT wornT
  rw [up_ne (by omega), up_ne (by omega), up_ne (by omega), wearF_at27, if_pos hf]
theorem day28 {nf f : Nat} {Y T : Nat → Nat} (h6 : nf ≤ 6) (hf : f < nf) : dayT nf Y T (28 + 3 * f) = T (28 + 3 * f) - (T (28 + 3 * f) + 1) / 2 := by
  unfold dayT wornT
  rw [up_ne (by omega), up_ne (by omega), up_ne (by omega), wearF_at28, if_pos hf]
theorem x_fades_y (C : CIv G I R K n x m v w q nx lo M lk sq vl st tp lw sp ap sg B) {f : Nat} (hf : f < vl.1) : XC G (d + 5) mX11_fades [.ref x, .int (nI f)] I J R K n x m (fadeA 121 0 (st.1 (27 + 3 * f)) (st.1 (28 + 3 * f)) (st.1 49)) vl st tp lw sp ap sg B := by
  intro Q hQ
  have h6 := C.okv.1.1
  have h9 := C.oks.2.2.2.1
  refine zC.of (by decide) (Nat.le_of_ble_eq_true rfl) ?_
  refine wX11_fades_0 x v w q C.X _ ?_
  refine c_xf_y C hf ?_
  refine ⟨_, _, rfl, rfl, ?_⟩
  refine ⟨fun h => absurd h (by decide), fun _ => ?_⟩
  refine c_copyFrom (X_7 C.X) (X_5 C.X) C.cs (by omega) ?_
  intro I1 cs1 f1
  refine ⟨_, rfl, rfl, ?_⟩
  have loop : ∀ (j k : Nat) (I' : Nat → Nat → Int32) (T : Nat → Nat), k + j = 121 → (∀ b k, ¬ scr x w q nx lk lw.1 b k → I' b k = I b k) → CS I' (x + 20) T → okT B vl.1 vl.2.1 T → T 49 = st.1 49 + k → fadeA j k (T (27 + 3 * f)) (T (28 + 3 * f)) (T 49) = fadeA 121 0 (st.1 (27 + 3 * f)) (st.1 (28 + 3 * f)) (st.1 49) → zV G (d + 5) mX11_fades 0 0 23 [(0, .ref x), (1, .int (nI f)), (2, .int (nI k))] [] (I', J, R, K, n) Q := by
    intro j
    induction j with
    | zero =>
      intro k I' T hk hs cs ok h49 e
      refine wX11_fades_23 x v w q C.X _ _ ⟨fun _ => ?_, fun h => absurd ((tk_lt (a := 120) (by omega) (by omega)).mpr (by omega)) h⟩
      exact qI e.symm (hQ I' v w q nx lo M lk sq (C.same hs) (C.mid hs))
    | succ j ih =>
      intro k I' T hk hs cs ok h49 e
      have C' := C.same hs
      refine wX11_fades_23 x v w q C.X _ _ ⟨fun h => ?_, fun _ => ?_⟩
      · rw [show (120 : Int32) = nI 120 from rfl, tk_lt (by omega) (by omega)] at h
        omega
      have ht := ok.t C.okv.1 (f := f) (by omega)
      refine c_whiteYards (X_7 C.X) cs (f := f) (by omega) ?_
      refine ⟨_, _, rfl, rfl, ?_⟩
      rw [show (0 : Int32) = nI 0 from rfl, tk_eq (by omega) (by omega)]
      refine ⟨fun h => ?_, fun h => ?_⟩
      · refine qI ?_ (hQ I' v w q nx lo M lk sq C' (C.mid hs))
        rw [← e, fadeA, if_pos h]
      · refine c_wear (X_7 C.X) C'.g2 C'.cv.1 C'.okv.1 cs ok C'.lwh ?_
        intro I2 cs2 _ F2
        refine ⟨_, rfl, rfl, ?_⟩
        rw [nI_1]
        refine ih (k + 1) I2 _ (by omega) (fun b i hb => ?_) cs2 (ok.day C.okv.1 (by omega)) ?_ ?_
        · rw [C'.fr F2 (fun h => hb (by unfold aSt at h; unfold scr; omega)) hb]
          exact hs b i hb
        · show up _ 49 (T 49 + 1) 49 = _
          rw [up_at]; omega
        · rw [← e, day27 h6 hf, day28 h6 hf, show dayT vl.1 vl.2.1 T 49 = T 49 + 1 from up_at]
          conv => rhs; rw [fadeA, if_neg h]
  exact loop 121 0 I1 st.1 (by omega) (fun b k hb => by rw [f1 b (fun h => hb (by unfold scr; omega))]) cs1 C.oks.1 (by omega) rfl
theorem y_fades_n (C : MIv G I J R K n m t c tl tt vl st tp lw sp ap sg B) (hp : bad vl.1 p) : YC G (d + 2) mX12_fades [.ref m, .int p] I J R K n m t c tl tt (-1) vl st tp lw sp ap sg B := by
  intro Q hQ
  obtain ⟨M1, f1⟩ := C.z0 (y := 0)
  replace hQ := hQ _ M1 f1
  refine zC.of (by decide) (Nat.le_of_ble_eq_true rfl) ?_
  refine wX12_fades_0 m t c C.S_ _ ?_
  rintro _ rfl
  refine c_mf_n C.S_ M1.v_.1.1 hp ?_
  refine ⟨_, _, rfl, rfl, ?_⟩
  exact ⟨fun _ => hQ, fun h => absurd rfl h⟩
/-- the model, its spare row changed -/
theorem MIv.m14 {I' : Nat → Nat → Int32} (C : MIv G I J R K n m t c tl tt vl st tp lw sp ap sg B) (f : ∀ q, q ≠ m + 14 → I' q = I q) : MIv G I' J R K n m t c tl tt vl st tp lw sp ap sg B := C.same C.S_ (fun b k h => by rw [f b (by unfold scm at h; omega)]) (C.lm_.of (Or.inr rfl) f)
theorem MR.wide {b nf : Nat} {Y : Nat → Nat} (hr : MR I b (wearF T nf)) (h6 : nf ≤ 6) {y : Int32} (h : y = nI (T 49 + 1)) : MR (zU I b 49 y) b (up (wearF T nf) 49 (T 49 + 1)) := by
  intro k hk
  rw [zU_a]
  by_cases e : k = 49
  · subst e; rw [if_pos rfl, up_at]; exact h
  · rw [if_neg e, up_ne e]; exact hr k hk
theorem okT.fade {nf : Nat} {Y : Nat → Nat} (O : okT B nf Y T) (W : okV nf Y) (h : T 49 < 1200) : okT B nf Y (up (wearF T nf) 49 (T 49 + 1)) := by
  have h6 := W.1
  obtain ⟨o1, o2, o3, o4, o5, o6, o7, o8, o9, o10⟩ := O
  refine ⟨fun p hp => ?_, fun f hf => ?_, fun f h1 h2 => ?_, fun f hf => ?_, ?_⟩
  · rw [up_ne (by omega), up_ne (by omega), up_ne (by omega), wearF_ne _ _ (by omega), wearF_ne _ _ (by omega), wearF_ne _ _ (by omega)]
    exact o1 p hp
  · rw [up_ne (by omega), up_ne (by omega), wearF_at27, wearF_at28, if_pos hf, if_pos hf]
    have := o2 f hf
    split <;> omega
  · rw [up_ne (by omega), up_ne (by omega), wearF_at27, wearF_at28, if_neg (by omega), if_neg (by omega)]
    exact o3 f h1 h2
  · rw [up_ne (by omega), wearF_at29]
    exact o4 f hf
  · rw [up_ne (by omega), up_ne (by omega), up_ne (by omega), up_ne (by omega), up_at, wearF_ne _ _ (by omega), wearF_ne _ _ (by omega), wearF_ne _ _ (by omega), wearF_ne _ _ (by omega)]
    exact ⟨o5, o6, o7, o8, by omega, o10⟩
theorem y_fades_y (C : MIv G I J R K n m t c tl tt vl st tp lw sp ap sg B) {f : Nat} (hf : f < vl.1) : YC G (d + 3) mX12_fades [.ref m, .int (nI f)] I J R K n m t c tl tt (fadeA 121 0 (st.1 (27 + 3 * f)) (st.1 (28 + 3 * f)) (st.1 49)) vl st tp lw sp ap sg B := by
  intro Q hQ
  have h6 := C.okv_.1.1
  have h9 := C.oks_.2.2.2.1
  obtain ⟨M1, f1⟩ := C.z0 (y := 0)
  have hin : vp_in (49 : Int32) 231 := (tk_in (n := 49) (by omega) (by omega)).mpr (by omega)
  refine zC.of (by decide) (Nat.le_of_ble_eq_true rfl) ?_
  refine wX12_fades_0 m t c C.S_ _ ?_
  rintro _ rfl
  refine c_mf_y C.S_ M1.v_.1.1 h6 hf ?_
  refine ⟨_, _, rfl, rfl, ?_⟩
  refine ⟨fun h => absurd h (by decide), fun _ => ?_⟩
  refine c_copy (Mod_26 C.S_) (Mod_28 C.S_) (by omega) M1.mr ?_
  intro I1 r1 _ g1
  refine ⟨_, rfl, rfl, ?_⟩
  have loop : ∀ (j k : Nat) (I' : Nat → Nat → Int32) (T : Nat → Nat), k + j = 121 → (∀ q, q ≠ m + 14 → I' q = zU I m 0 0 q) → MR I' (m + 14) T → okT B vl.1 vl.2.1 T → T 49 = st.1 49 + k → fadeA j k (T (27 + 3 * f)) (T (28 + 3 * f)) (T 49) = fadeA 121 0 (st.1 (27 + 3 * f)) (st.1 (28 + 3 * f)) (st.1 49) → zV G (d + 3) mX12_fades 0 0 28 [(0, .ref m), (1, .int (nI f)), (2, .int (nI k))] [] (I', J, R, K, n) Q := by
    intro j
    induction j with
    | zero =>
      intro k I' T hk hs cs ok h49 e
      refine wX12_fades_28 m t c C.S_ _ _ ⟨fun _ => ?_, fun h => absurd ((tk_lt (a := 120) (by omega) (by omega)).mpr (by omega)) h⟩
      exact qI e.symm (hQ I' (M1.m14 hs) (fun b hb => by rw [hs b (by omega)]; exact f1 b hb))
    | succ j ih =>
      intro k I' T hk hs cs ok h49 e
      have C' := M1.m14 hs
      refine wX12_fades_28 m t c C.S_ _ _ ⟨fun h => ?_, fun _ => ?_⟩
      · rw [show (120 : Int32) = nI 120 from rfl, tk_lt (by omega) (by omega)] at h
        omega
      have ht := ok.t C.okv_.1 (f := f) (by omega)
      refine c_mwhite (Mod_28 C.S_) cs (f := f) (by omega) ?_
      refine ⟨_, _, rfl, rfl, ?_⟩
      rw [show (0 : Int32) = nI 0 from rfl, tk_eq (by omega) (by omega)]
      refine ⟨fun h => ?_, fun h => ?_⟩
      · refine qI ?_ (hQ I' C' (fun b hb => by rw [hs b (by omega)]; exact f1 b hb))
        rw [← e, fadeA, if_pos h]
      · refine c_wears C.S_ (Mod_28 C.S_) (by omega) C'.v_.1 C'.okv_.1 cs ok ?_
        intro I2 r2 _ g2
        refine ⟨_, _, rfl, rfl, hin, hin, ?_⟩
        intro I3 e3
        rw [show (49 : Int32).toNatClampNeg = 49 from rfl, r2 49 (by omega), wearF_ne _ _ (by omega), nI_1] at e3
        rw [nI_1]
        refine ih (k + 1) I3 _ (by omega) (fun q hq => ?_) (by rw [e3]; exact MR.wide (Y := T) r2 h6 rfl) (ok.fade C.okv_.1 (by omega)) ?_ ?_
        · rw [e3, zU_off hq, g2 q hq]; exact hs q hq
        · rw [up_at]; omega
        · rw [← e, up_at, up_ne (by omega), up_ne (by omega), wearF_at27, wearF_at28, if_pos hf, if_pos hf]
          conv => rhs; rw [fadeA, if_neg h]
  exact loop 121 0 I1 st.1 (by omega) g1 r1 C.oks_.1 (by omega) rfl
-- seen
def isSeen (vl : Vt) (sg : Sgt) (p p2 : Int32) : Prop := ∃ k j : Nat, k < vl.2.2.1 ∧ j ≤ 40 ∧ sg.1 < 10 ∧ p = nI k ∧ p2 = nI j
def seenS (sg : Sgt) (k j b : Nat) : Sgt := (sg.1 + 1, up (up (up sg.2 (3 * sg.1) k) (3 * sg.1 + 1) j) (3 * sg.1 + 2) b)
theorem c_xt (C : CIv G I R K n x m v w q nx lo M lk sq vl st tp lw sp ap sg B) (hQ : Q (some (.int (if p < 0 then 0 else if nI vl.2.2.1 ≤ p then 0 else 1))) (I, J, R, K, n)) : zC G (d + 1) mX11_isTold 0 0 [.ref x, .int p] (I, J, R, K, n) Q := by
  refine zC.of (by decide) (Nat.le_of_ble_eq_true rfl) ?_
  refine wX11_isTold_0 x v w q C.X _ ?_
  rw [C.cv.2.1]
  exact hQ
theorem c_yt (C : MIv G I J R K n m t c tl tt vl st tp lw sp ap sg B) (hQ : Q (some (.int (if p < 0 then 0 else if nI vl.2.2.1 ≤ p then 0 else 1))) (I, J, R, K, n)) : zC G (d + 1) mX12_isTold 0 0 [.ref m, .int p] (I, J, R, K, n) Q := by
  refine zC.of (by decide) (Nat.le_of_ble_eq_true rfl) ?_
  refine wX12_isTold_0 m t c C.S_ _ ?_
  rw [C.v_.2.1]
  exact hQ
theorem told_y {N k : Nat} (hN : N < 2147483648) (hk : k < N) : (if nI k < 0 then (0 : Int32) else if nI N ≤ nI k then 0 else 1) = 1 := by
  rw [if_neg (nI_pos (by omega)), if_neg (by rw [tk_le (by omega) (by omega)]; omega)]
theorem told_n {N : Nat} (h : bad N p) : (if p < 0 then (0 : Int32) else if nI N ≤ p then 0 else 1) = 0 := by
  rcases h with h | h
  · rw [if_pos h]
  · rw [if_pos h, ite_self]
theorem x_seen_n (C : CIv G I R K n x m v w q nx lo M lk sq vl st tp lw sp ap sg B) (hp : ¬ isSeen vl sg p p2) : XC G (d + 2) mX11_seen [.ref x, .int p, .int p2, .int p3] I J R K n x m (-1) vl st tp lw sp ap sg B := by
  intro Q hQ
  replace hQ := hQ I v w q nx lo M lk sq C (fun _ _ _ => rfl)
  have hnw := C.okv.2.1
  have hsg := C.cg.1
  refine zC.of (by decide) (Nat.le_of_ble_eq_true rfl) ?_
  refine wX11_seen_0 x v w q C.X _ _ _ ?_
  refine c_xt C ?_
  refine ⟨_, _, rfl, rfl, ?_⟩
  rcases bad_or (N := vl.2.2.1) (by omega) p with h | ⟨k, hk, rfl⟩
  · exact ⟨fun _ => hQ, fun h2 => absurd (told_n h) h2⟩
  refine ⟨fun _ => hQ, fun _ => ⟨fun _ => hQ, fun h1 => ⟨fun _ => hQ, fun h2 => ⟨fun h3 => ?_, fun _ => hQ⟩⟩⟩⟩
  rw [C.cg.2.1, show (10 : Int32) = nI 10 from rfl, tk_lt (by omega) (by omega)] at h3
  rcases bad_or (N := 41) (by omega) p2 with (h | h) | ⟨j, hj, rfl⟩
  · exact absurd h h1
  · exact absurd (by rw [Int32.lt_iff_toInt_lt]; rw [Int32.le_iff_toInt_le] at h; have : (40 : Int32).toInt = 40 := rfl; have : (nI 41).toInt = 41 := rfl; omega) h2
  · exact absurd ⟨k, j, hk, by omega, h3, rfl, rfl⟩ hp
theorem y_seen_n (C : MIv G I J R K n m t c tl tt vl st tp lw sp ap sg B) (hp : ¬ isSeen vl sg p p2) : YC G (d + 2) mX12_seen [.ref m, .int p, .int p2, .int p3] I J R K n m t c tl tt (-1) vl st tp lw sp ap sg B := by
  intro Q hQ
  obtain ⟨M1, f1⟩ := C.z0 (y := 0)
  replace hQ := hQ _ M1 f1
  have hnw := C.okv_.2.1
  have hsg := C.g_.1
  refine zC.of (by decide) (Nat.le_of_ble_eq_true rfl) ?_
  refine wX12_seen_0 m t c C.S_ _ _ _ ?_
  rintro _ rfl
  refine c_yt M1 ?_
  refine ⟨_, _, rfl, rfl, ?_⟩
  rcases bad_or (N := vl.2.2.1) (by omega) p with h | ⟨k, hk, rfl⟩
  · exact ⟨fun _ => hQ, fun h2 => absurd (told_n h) h2⟩
  rw [told_y (by omega) hk]
  refine ⟨fun h => absurd h (by decide), fun _ => ?_⟩
  rcases bad_or (N := 41) (by omega) p2 with h | ⟨j, hj, rfl⟩
  · refine c_in_n (N := 41) (by decide) (by decide) h ?_
    refine ⟨_, _, rfl, rfl, ?_⟩
    exact ⟨fun _ => hQ, fun h => absurd rfl h⟩
  · refine c_in_y (N := 41) (by decide) (by decide) hj ?_
    refine ⟨_, _, rfl, rfl, ?_⟩
    refine ⟨fun h => absurd h (by decide), fun _ => ⟨fun _ => hQ, fun h => ?_⟩⟩
    rw [M1.g_.2.1, show (10 : Int32) = nI 10 from rfl, tk_eq (by omega) (by omega)] at h
    exact absurd ⟨k, j, hk, by omega, by omega, rfl, rfl⟩ hp
theorem CIv.sig {I' : Nat → Nat → Int32} {sg' : Sgt} (C : CIv G I R K n x m v w q nx lo M lk sq vl st tp lw sp ap sg B) (h : ∀ b, ¬ (x + 82 ≤ b ∧ b < x + 86) → I' b = I b) (c : cG I' x sg') : CIv G I' R K n x m v w q nx lo M lk sq vl st tp lw sp ap sg' B := by
  have g := C.gm
  have vw := C.vw
  have hnx := C.hr.2.2.1
  refine ⟨C.X, C.vw, C.gm, ?_, ?_, C.okv, ?_, C.oks, ?_, C.hd, ?_, ?_, ?_, ?_, c, by rw [h x (by omega)]; exact C.ap⟩
  · exact C.tp.same (by rw [h _ (by omega)]) (h _ (by omega))
  · exact C.cv.same (fun b b1 b2 => h b (by omega))
  · exact C.cs.same11 (fun k hk => by rw [h _ (by omega)]) (fun b b1 b2 => h b (by omega))
  · exact C.hr.same (h _ (by omega)) (fun j hj hne => h _ (by omega))
  · exact C.lg.same (fun b b1 b2 => h b (by omega))
  · exact C.im.same (by rw [h _ (by omega)]) (fun b b1 b2 => h b (by omega))
  · exact C.cl.same (fun k => by rw [h x (by omega)]) (fun k hk => h _ (by have := g.1; have := g.2.2.1 k hk; omega))
  · exact C.cp.same (fun k => by rw [h x (by omega)]) (fun k b hk b1 b2 => h b (by have := g.1; have := g.2.2.2.1 k hk; omega))
theorem MIv.sig {I' : Nat → Nat → Int32} {sg' : Sgt} (C : MIv G I J R K n m t c tl tt vl st tp lw sp ap sg B) (hm : ∀ k, k ≠ 44 → I' m k = I m k) (h : ∀ b, b ≠ m → b ≠ m + 18 → I' b = I b) (c0 : mG I' m sg') : MIv G I' J R K n m t c tl tt vl st tp lw sp ap sg' B := by
  refine ⟨C.S_, ?_, C.okv_, ?_, C.oks_, ?_, ?_, ?_, ?_, c0, by rw [hm 35 (by omega)]; exact C.ap_⟩
  · unfold mV VM
    rw [hm 26 (by omega), hm 27 (by omega), h _ (by omega) (by omega), h _ (by omega) (by omega), h _ (by omega) (by omega)]
    exact C.v_
  · unfold mS
    rw [hm 39 (by omega), hm 47 (by omega), h (m + 13) (by omega) (by omega), h (m + 17) (by omega) (by omega), h (m + 20) (by omega) (by omega)]
    exact C.s_
  · unfold mT
    rw [hm 6 (by omega), h _ (by omega) (by omega)]
    exact C.tp_
  · unfold LMo
    rw [hm 7 (by omega), h _ (by omega) (by omega), h _ (by omega) (by omega), h _ (by omega) (by omega), h _ (by omega) (by omega)]
    exact C.lm_
  · unfold mHl
    rw [hm 34 (by omega)]
    exact C.hl_
  · unfold mP
    rw [hm 30 (by omega), h _ (by omega) (by omega), h _ (by omega) (by omega)]
    exact C.p_
theorem x_seen_y (C : CIv G I R K n x m v w q nx lo M lk sq vl st tp lw sp ap sg B) {k j b : Nat} (hk : k < vl.2.2.1) (hj : j ≤ 40) (hs : sg.1 < 10) (hb : b ≤ 1) : XC G (d + 2) mX11_seen [.ref x, .int (nI k), .int (nI j), .int (nI b)] I J R K n x m (nI (sg.1 + 1)) vl st tp lw sp ap (seenS sg k j b) B := by
  intro Q hQ
  have hnw := C.okv.2.1
  have g := C.gm
  have eb : vp_nar .boolean (nI b) = nI b := by
    have hc : b = 0 ∨ b = 1 := by omega
    rcases hc with rfl | rfl
    · rfl
    · rfl
  have c0 := C.cg.2.1
  have hin : vp_in (nI sg.1) 10 := (tk_in (by omega) (by omega)).mpr (by omega)
  refine zC.of (by decide) (Nat.le_of_ble_eq_true rfl) ?_
  refine wX11_seen_0 x v w q C.X _ _ _ ?_
  refine c_xt C ?_
  refine ⟨_, _, rfl, rfl, ?_⟩
  rw [told_y (by omega) hk]
  have h10 : I (x + 82) 0 < 10 := by
    rw [c0, show (10 : Int32) = nI 10 from rfl, tk_lt (by omega) (by omega)]
    exact hs
  refine ⟨fun h => absurd h (by decide), fun _ => ⟨fun h => absurd h (nI_pos (by omega)), fun _ => ⟨fun h => ?_, fun _ => ⟨fun _ => ?_, fun h => absurd h10 h⟩⟩⟩⟩
  · rw [show (40 : Int32) = nI 40 from rfl, tk_lt (by omega) (by omega)] at h
    omega
  refine zC.of (by decide) (Nat.le_of_ble_eq_true rfl) (wX6_add_0 (x + 82) (x + 20) (x + 3) v (X_13 C.X) _ _ _ ?_)
  rw [c0, tk_c (by omega)]
  refine ⟨fun h => ?_, fun _ => ⟨hin, ?_⟩⟩
  · rw [show (10 : Int32) = nI 10 from rfl, tk_le (by omega) (by omega)] at h
    omega
  intro I2 e2
  have e20 : I2 (x + 82) 0 = nI sg.1 := by rw [e2, zU_off (by omega)]; exact c0
  rw [e20, tk_c (by omega)]
  refine ⟨hin, ?_⟩
  intro I3 e3
  have e30 : I3 (x + 82) 0 = nI sg.1 := by rw [e3, zU_off (by omega)]; exact e20
  rw [e30, tk_c (by omega), eb]
  refine ⟨hin, ?_⟩
  intro I4 e4
  have e40 : I4 (x + 82) 0 = nI sg.1 := by rw [e4, zU_off (by omega)]; exact e30
  rw [e40, nI_1]
  intro I5 e5
  refine ⟨_, rfl, rfl, ?_⟩
  have e50 : I5 (x + 82) 0 = nI (sg.1 + 1) := by rw [e5, zU_self]
  rw [e50]
  have fr : ∀ b, ¬ (x + 82 ≤ b ∧ b < x + 86) → I5 b = I b := fun b hb => by rw [e5, zU_off (by omega), e4, zU_off (by omega), e3, zU_off (by omega), e2, zU_off (by omega)]
  have r1 : ∀ y, I5 (x + 83) y = if y = sg.1 then nI k else I (x + 83) y := fun y => by rw [e5, zU_off (by omega), e4, zU_off (by omega), e3, zU_off (by omega), e2, zU_a]
  have r2 : ∀ y, I5 (x + 84) y = if y = sg.1 then nI j else I (x + 84) y := fun y => by rw [e5, zU_off (by omega), e4, zU_off (by omega), e3, zU_a, e2, zU_off (by omega)]
  have r3 : ∀ y, I5 (x + 85) y = if y = sg.1 then nI b else I (x + 85) y := fun y => by rw [e5, zU_off (by omega), e4, zU_a, e3, zU_off (by omega), e2, zU_off (by omega)]
  refine hQ I5 v w q nx lo M lk sq (C.sig fr ⟨by show sg.1 + 1 ≤ 10; omega, e50, fun i hi => ?_⟩) (fun b b1 b2 => fr b (by have := g.1; omega))
  unfold seenS at hi ⊢
  simp only at hi ⊢
  rw [r1, r2, r3]
  by_cases e : i = sg.1
  · subst e
    rw [if_pos rfl, if_pos rfl, if_pos rfl, up_at, up_ne (by omega), up_ne (by omega), up_at, up_ne (by omega), up_at]
    exact ⟨rfl, rfl, rfl, by omega, hj, hb⟩
  · rw [if_neg e, if_neg e, if_neg e, up_ne (by omega), up_ne (by omega), up_ne (by omega), up_ne (by omega), up_ne (by omega), up_ne (by omega), up_ne (by omega), up_ne (by omega), up_ne (by omega)]
    exact C.cg.2.2 i (by omega)
theorem y_seen_y (C : MIv G I J R K n m t c tl tt vl st tp lw sp ap sg B) {k j b : Nat} (hk : k < vl.2.2.1) (hj : j ≤ 40) (hs : sg.1 < 10) (hb : b ≤ 1) : YC G (d + 2) mX12_seen [.ref m, .int (nI k), .int (nI j), .int (nI b)] I J R K n m t c tl tt (nI (sg.1 + 1)) vl st tp lw sp ap (seenS sg k j b) B := by
  intro Q hQ
  have hnw := C.okv_.2.1
  obtain ⟨M1, f1⟩ := C.z0 (y := 0)
  have eb : (if nI b = 0 then (0 : Int32) else 1) = nI b := by
    have hc : b = 0 ∨ b = 1 := by omega
    rcases hc with rfl | rfl
    · rfl
    · rfl
  have c0 := M1.g_.2.1
  have hin : ∀ y, y < 3 → vp_in (nI (3 * sg.1 + y)) 30 := fun y hy => (tk_in (by omega) (by omega)).mpr (by omega)
  have e3' : ∀ y, (3 * nI y : Int32) = nI (3 * y) := fun y => by rw [show (3 : Int32) = nI 3 from rfl, pk_mul]
  refine zC.of (by decide) (Nat.le_of_ble_eq_true rfl) ?_
  refine wX12_seen_0 m t c C.S_ _ _ _ ?_
  rintro _ rfl
  generalize zU I m 0 0 = I0 at M1 f1 c0 ⊢
  refine c_yt M1 ?_
  refine ⟨_, _, rfl, rfl, ?_⟩
  rw [told_y (by omega) hk]
  refine ⟨fun h => absurd h (by decide), fun _ => ?_⟩
  refine c_in_y (N := 41) (by decide) (by decide) (k := j) (by omega) ?_
  refine ⟨_, _, rfl, rfl, ?_⟩
  rw [c0, eb, e3']
  refine ⟨fun h => absurd h (by decide), fun _ => ⟨fun h => ?_, fun _ => ⟨hin 0 (by omega), ?_⟩⟩⟩
  · rw [show (10 : Int32) = nI 10 from rfl, tk_eq (by omega) (by omega)] at h
    omega
  rw [tk_c (by omega)]
  intro I2 e2
  have e20 : I2 m 44 = nI sg.1 := by rw [e2, zU_off (by omega)]; exact c0
  rw [e20, e3', show (nI (3 * sg.1) + 1 : Int32) = nI (3 * sg.1 + 1) from nI_1 _, tk_c (by omega)]
  refine ⟨hin 1 (by omega), ?_⟩
  intro I3 e3
  have e30 : I3 m 44 = nI sg.1 := by rw [e3, zU_off (by omega)]; exact e20
  rw [e30, e3', show (nI (3 * sg.1) + 2 : Int32) = nI (3 * sg.1 + 2) from nI_add .., tk_c (by omega)]
  refine ⟨hin 2 (by omega), ?_⟩
  intro I4 e4
  have e40 : I4 m 44 = nI sg.1 := by rw [e4, zU_off (by omega)]; exact e30
  rw [e40, nI_1]
  intro I5 e5
  have e50 : I5 m 44 = nI (sg.1 + 1) := by rw [e5, zU_self]
  rw [e50]
  have hm : ∀ k, k ≠ 44 → I5 m k = I0 m k := fun k hk => by rw [e5, zU_ne (by omega), e4, zU_off (by omega), e3, zU_off (by omega), e2, zU_off (by omega)]
  have fr : ∀ b, b ≠ m → b ≠ m + 18 → I5 b = I0 b := fun b h1 h2 => by rw [e5, zU_off h1, e4, zU_off h2, e3, zU_off h2, e2, zU_off h2]
  have r1 : ∀ y, I5 (m + 18) y = if y = 3 * sg.1 + 2 then nI b else if y = 3 * sg.1 + 1 then nI j else if y = 3 * sg.1 then nI k else I0 (m + 18) y := fun y => by rw [e5, zU_off (by omega), e4, zU_a, e3, zU_a, e2, zU_a]
  refine hQ I5 (M1.sig hm fr ⟨by show sg.1 + 1 ≤ 10; omega, e50, fun y hy => ?_, fun i hi => ?_⟩) (fun b hb => by rw [fr b (by omega) (by omega)]; exact f1 b hb)
  · unfold seenS at hy ⊢
    simp only at hy ⊢
    rw [r1]
    by_cases h2 : y = 3 * sg.1 + 2
    · rw [if_pos h2, h2, up_at]
    rw [if_neg h2, up_ne h2]
    by_cases h1 : y = 3 * sg.1 + 1
    · rw [if_pos h1, h1, up_at]
    rw [if_neg h1, up_ne h1]
    by_cases h0 : y = 3 * sg.1
    · rw [if_pos h0, h0, up_at]
    rw [if_neg h0, up_ne h0]
    exact M1.g_.2.2.1 y (by omega)
  · unfold seenS at hi ⊢
    simp only at hi ⊢
    by_cases e : i = sg.1
    · subst e
      rw [up_at, up_ne (by omega), up_ne (by omega), up_at, up_ne (by omega), up_at]
      exact ⟨by omega, hj, hb⟩
    · rw [up_ne (by omega), up_ne (by omega), up_ne (by omega), up_ne (by omega), up_ne (by omega), up_ne (by omega), up_ne (by omega), up_ne (by omega), up_ne (by omega)]
      exact M1.g_.2.2.2 i (by omega)
end
