/-! THE FACE: years -/
def quaS (ap : Nat) (s : Int64) : Int64 := if drV (drS s) 10 < ap then drS (drS (drS (drS s))) else drS s
def quaT (nf ap : Nat) (T : Nat → Nat) (s : Int64) : Nat → Nat := if drV (drS s) 10 < ap ∧ drV (drS (drS s)) nf ≠ drV (drS (drS (drS s))) nf ∧ freeA T 9 0 < 9 then sinT T (freeA T 9 0) (drV (drS (drS s)) nf) (drV (drS (drS (drS s))) nf) (drV (drS (drS (drS (drS s)))) 9 + 1) else T
def forT (Wc : Nat → Nat → Nat → Nat → Nat → Nat → Nat) (Y T : Nat → Nat) (p : Nat) : Nat → Nat := if 0 < T (3 * p + 2) then pardonT Wc Y T p else T
def limeT (T : Nat → Nat) : Nat → Nat := up T 47 (min 999 (T 47 + 3))
/-- the row of a year, ahead of its day -/
def yeaT (vl : Vt) (lw : Lwt) (ap : Nat) (T : Nat → Nat) (s : Int64) : Nat → Nat := limeT (forT (aW lw) vl.2.1 (quaT vl.1 ap T s) (drV (drS (quaS ap s)) 9))
def yearS (vl : Vt) (lw : Lwt) (ap : Nat) (st : Stt) (s : Int64) : Stt := (dayT vl.1 vl.2.1 (yeaT vl lw ap st.1 s), dlog vl.1 vl.2.1 (yeaT vl lw ap st.1 s) st.2.1, push st.1 st.2.2.1, st.2.2.2)
def yrsF (vl : Vt) (lw : Lwt) (ap : Nat) (st : Stt) (s : Int64) : Nat → Stt × Int64
  | 0 => (st, s)
  | i + 1 => (yearS vl lw ap (yrsF vl lw ap st s i).1 (yrsF vl lw ap st s i).2, drS (quaS ap (yrsF vl lw ap st s i).2))
section
variable {B nf : Nat} {Y T : Nat → Nat} {Wc : Nat → Nat → Nat → Nat → Nat → Nat → Nat} {ap : Nat} {s : Int64}
theorem okT.qua (O : okT B nf Y T) (hv : 0 < nf) : okT B nf Y (quaT nf ap T s) := by
  unfold quaT
  split
  · rename_i h
    exact O.sin h.2.2 (drV_lt hv) (drV_lt hv) h.2.1 (by have := drV_lt (s := drS (drS (drS (drS s)))) (N := 9) (by omega); omega)
  · exact O
theorem okT.for_ (O : okT B nf Y T) (W : okV nf Y) (hB : B + 1 < 100000) {p : Nat} (hp : p < 9) : okT (B + 1) nf Y (forT Wc Y T p) := by
  unfold forT
  split
  · rename_i h
    exact O.pardon W hB hp h
  · exact O.wide (by omega) hB
theorem qua49 (h9 : freeA T 9 0 < 9 → 3 * freeA T 9 0 + 2 < 49) : quaT nf ap T s 49 = T 49 := by
  unfold quaT
  split
  · rename_i h
    have := h9 h.2.2
    unfold sinT
    rw [up_ne (by omega), up_ne (by omega), up_ne (by omega)]
  · rfl
theorem for49 (O : okT B nf Y T) (W : okV nf Y) {p : Nat} (hp : p < 9) : forT Wc Y T p 49 = T 49 := by
  have h6 := W.1
  unfold forT
  split
  · rename_i h
    obtain ⟨o1, o2, -⟩ := (O.1 p hp).2 h
    exact pard49 hp (by omega) (by omega)
  · rfl
end
section
variable {vl : Vt} {lw : Lwt} {ap B : Nat} {T : Nat → Nat} {s : Int64}
theorem okT.yea (O : okT B vl.1 vl.2.1 T) (W : okV vl.1 vl.2.1) (hB : B + 1 < 100000) (hv : 0 < vl.1) : okT (B + 1) vl.1 vl.2.1 (yeaT vl lw ap T s) := ((O.qua hv).for_ W hB (drV_lt (by omega))).up47 W (by omega)
theorem yea49 (O : okT B vl.1 vl.2.1 T) (W : okV vl.1 vl.2.1) (hv : 0 < vl.1) : yeaT vl lw ap T s 49 = T 49 := by
  unfold yeaT limeT
  rw [up_ne (by omega), for49 (O.qua hv) W (drV_lt (by omega)), qua49 (fun h => by omega)]
end
section
variable {G : zG} {d : Nat} {I : Nat → Nat → Int32} {J : Nat → Nat → Int64} {R : Nat → Nat → Option Nat} {K : Nat → Nat × Nat} {n : Nat} {x m v w q nx lo M t c : Nat} {lk sq : Nat → Nat} {tl : Nat → Nat} {tt : Nat → Nat → Nat} {vl : Vt} {st : Stt} {tp : Tpt} {lw : Lwt} {sp : Spt} {ap : Nat} {sg : Sgt} {B B' : Nat} {p : Int32} {T T' Z : Nat → Nat} {Q : Option Value → zH → Prop}
/-- write, behind prepare and wear, from another row of the same day -/
theorem x_wrZ {I6 : Nat → Nat → Int32} (C : CIv G I R K n x m v w q nx lo M lk sq vl st tp lw sp ap sg B) (h9 : st.1 49 < 999) (hZ : Z 49 = st.1 49) (oz : okT B' vl.1 vl.2.1 Z) (kr : KR (I (x + 30 + nx)) st.1) (cs : CS I6 (x + 12) (dayT vl.1 vl.2.1 Z)) (c11 : I6 (x + 12) 11 = nI (cameA Z vl.1)) (F6 : Fr (aSt (x + 12)) R (x + 3) I I6) (hQ : ∀ I', CHr I' (x + 28) st.2.2.1 nx → KR (I' (x + 30 + nx)) st.1 → CS I' (x + 12) (dayT vl.1 vl.2.1 Z) → CLg I' (x + 28) (dayT vl.1 vl.2.1 Z 49) lo (max M (dayT vl.1 vl.2.1 Z 49)) (dlog vl.1 vl.2.1 Z st.2.1) → (∀ b k, ¬ scr x w q nx lk lw.1 b k → ¬ (x + 12 ≤ b ∧ b < x + 19) → ¬ (x + 72 ≤ b ∧ b < x + 75) → I' b k = I b k) → Q none (I', J, R, K, n)) : zC G (d + 4) mX1_write 0 0 [.ref (x + 28), .ref (x + 12)] (I6, J, R, K, n) Q := by
  have hnx := C.hr.2.2.1
  have vw := C.vw
  have h6 := C.okv.1.1
  have hM := C.hd.2.2.2.1
  have e49 : dayT vl.1 vl.2.1 Z 49 = Z 49 + 1 := up_at
  have low : ∀ b, ¬ aSt (x + 12) b → b ≠ x + 11 → b < x + 111 → I6 b = I b := fun b h1 h2 h3 => F6.low C.lwh h1 h2 h3
  have V6 : VL I6 v vl.1 vl.2.1 := F6.vl C.lwh C.cv.1 (fun b hb => by unfold aSt at hb; omega) (by omega) (by omega)
  have O6 := oz.day C.okv.1 (by omega)
  refine c_write (X_9 C.X) (X_5 C.X) (by omega) (by omega) V6 C.okv.1 cs O6 (by omega) c11 ?_
  intro I7 w0 w1 w2 f7
  rw [e49, Nat.add_sub_cancel] at w0 w1 w2
  have l47 : dayT vl.1 vl.2.1 Z 47 = Z 47 := by unfold dayT wornT; rw [up_ne (by omega), up_ne (by omega), up_ne (by omega), wearF_ne _ _ (by omega)]
  rw [l47] at w2
  rw [whitesA_day h6] at w0
  refine hQ I7 ?_ ?_ ?_ ?_ ?_
  · exact C.hr.same (by rw [f7 _ (by omega) (by omega) (by omega)]; exact low _ (by unfold aSt; omega) (by omega) (by omega)) (fun j hj _ => by rw [f7 _ (by omega) (by omega) (by omega)]; exact low _ (by unfold aSt; omega) (by omega) (by omega))
  · rw [f7 _ (by omega) (by omega) (by omega), low _ (by unfold aSt; omega) (by omega) (by omega)]
    exact kr
  · exact cs.same (fun b b1 b2 => f7 b (by omega) (by omega) (by omega))
  · rw [e49]
    have lg := C.lg
    rw [← hZ] at lg hM
    refine lg.day hM (fun w y hw => ?_)
    have hl : ∀ b, x + 72 ≤ b → b < x + 75 → I6 b = I b := fun b b1 b2 => low b (by unfold aSt; omega) (by omega) (by omega)
    obtain rfl | rfl | rfl : w = 0 ∨ w = 1 ∨ w = 2 := by omega
    · rw [← hl _ (by omega) (by omega)]; exact w0 y
    · rw [← hl _ (by omega) (by omega)]; exact w1 y
    · rw [← hl _ (by omega) (by omega)]; exact w2 y
  · intro b k hb h12 h72
    rw [f7 b (by omega) (by omega) (by omega)]
    exact C.fr F6 (fun h => h12 (by unfold aSt at h; omega)) hb
theorem c_quarrel (C : CIv G I R K n x m v w q nx lo M lk sq vl st tp lw sp ap sg B) (hv : 0 < vl.1) (hQ : ∀ I' J', J' x 17 = quaS ap (J x 17) → (∀ b, b ≠ x → J' b = J b) → CS I' (x + 12) (quaT vl.1 ap st.1 (J x 17)) → Fr (aSt (x + 12)) R (x + 3) I I' → Q none (I', J', R, K, n)) : zC G (d + 3) mX11_quarrel 0 0 [.ref x] (I, J, R, K, n) Q := by
  have h6 := C.okv.1.1
  have hap := C.ap
  have b10 := drV_lt (s := drS (J x 17)) (N := 10) (by omega)
  refine zC.of (by decide) (Nat.le_of_ble_eq_true rfl) ?_
  refine wX11_quarrel_0 x v w q C.X ?_
  refine c_draw C.X (N := 10) (by omega) (by omega) ?_
  refine ⟨_, _, _, rfl, rfl, ?_⟩
  rw [hap.1, tk_lt (by omega) (by omega), C.cv.1.1]
  refine ⟨fun h => ?_, fun h => ?_⟩
  · refine c_draw C.X (N := vl.1) hv (by omega) ?_
    refine ⟨_, _, _, rfl, rfl, ?_⟩
    rw [C.cv.1.1]
    refine c_draw C.X (N := vl.1) hv (by omega) ?_
    refine ⟨_, _, _, rfl, rfl, ?_⟩
    refine c_draw C.X (N := 9) (by omega) (by omega) ?_
    refine ⟨_, _, _, rfl, rfl, ?_⟩
    rw [zU_self, zU_self, zU_self, nI_1]
    have f1 := drV_lt (s := drS (drS (J x 17))) hv
    have f2 := drV_lt (s := drS (drS (drS (J x 17)))) hv
    have f3 := drV_lt (s := drS (drS (drS (drS (J x 17))))) (N := 9) (by omega)
    have hJ : ∀ {y1 y2 y3 y4 : Int64} (b : Nat), b ≠ x → zU (zU (zU (zU J x 17 y1) x 17 y2) x 17 y3) x 17 y4 b = J b := fun b hb => by rw [zU_off hb, zU_off hb, zU_off hb, zU_off hb]
    have hS : quaS ap (J x 17) = drS (drS (drS (drS (J x 17)))) := if_pos h
    by_cases hc : drV (drS (drS (J x 17))) vl.1 ≠ drV (drS (drS (drS (J x 17)))) vl.1 ∧ freeA st.1 9 0 < 9
    · refine c_offend (X_5 C.X) C.cv.1 C.okv.1 C.cs C.oks.1 f1 f2 hc.1 (by omega) (by omega) hc.2 ?_
      intro I' cs F
      refine ⟨_, _, rfl, rfl, hQ I' _ (by rw [zU_self, hS]) hJ ?_ F⟩
      unfold quaT
      rw [if_pos ⟨h, hc.1, hc.2⟩]
      exact cs
    · refine c_offend_n (X_5 C.X) C.cv.1 C.okv.1 C.cs C.oks.1 ?_ ?_
      · rintro ⟨x', y', z', e1, e2, -, hx', hy', e3, -, -, e4⟩
        rw [tk_eq (by omega) (by omega)] at e1 e2
        exact hc ⟨by omega, e4⟩
      · refine ⟨_, _, rfl, rfl, hQ I _ (by rw [zU_self, hS]) hJ ?_ Fr.rf⟩
        unfold quaT
        rw [if_neg (fun h2 => hc h2.2)]
        exact C.cs
  · refine hQ I _ ?_ (fun b hb => zU_off hb) ?_ Fr.rf
    · rw [zU_self]
      exact (if_neg h).symm
    · unfold quaT
      rw [if_neg (fun h2 => h h2.1)]
      exact C.cs
theorem x_years_n {s : Int64} (C : CIv G I R K n x m v w q nx lo M lk sq vl st tp lw sp ap sg B) (hp : ¬ (0 < vl.1 ∧ ∃ k : Nat, p = nI k ∧ 1 ≤ k ∧ k ≤ 30 ∧ st.1 49 + k ≤ 999)) : XD G (d + 2) mX11_years [.ref x, .int p, .long s] I J R K n x m (-1) vl st tp lw sp ap sg B := by
  intro Q hQ
  replace hQ := hQ I J R v w q nx lo M lk sq C (fun _ _ _ => ⟨rfl, rfl, rfl⟩)
  have h9 := C.oks.2.2.2.1
  refine zC.of (by decide) (Nat.le_of_ble_eq_true rfl) ?_
  refine wX11_years_0 x v w q C.X _ _ ?_
  by_cases hv : 0 < vl.1
  · refine c_hasV_y C hv ?_
    refine ⟨_, _, rfl, rfl, ?_⟩
    refine ⟨fun h => absurd h (by decide), fun _ => ⟨fun _ => hQ, fun h1 => ⟨fun _ => hQ, fun h2 => ⟨fun h3 => ?_, fun _ => hQ⟩⟩⟩⟩
    obtain ⟨k, k1, k30, rfl⟩ := tk_small (N := 30) (by decide) h1 (Int32.not_lt.mp h2)
    rw [C.cs.2.2.2.2.2.2, nI_add, show (999 : Int32) = nI 999 from rfl, tk_le (by omega) (by omega)] at h3
    exact absurd ⟨hv, k, rfl, k1, k30, h3⟩ hp
  · refine c_hasV_n C hv ?_
    refine ⟨_, _, rfl, rfl, ?_⟩
    exact ⟨fun _ => hQ, fun h => absurd rfl h⟩
theorem x_years_y {s : Int64} (C : CIv G I R K n x m v w q nx lo M lk sq vl st tp lw sp ap sg B) (hv : 0 < vl.1) {k : Nat} (k1 : 1 ≤ k) (k30 : k ≤ 30) (hk : st.1 49 + k ≤ 999) (hB : B + 40 < 100000) : XD G (d + 7) mX11_years [.ref x, .int (nI k), .long s] I J R K n x m (nI ((yrsF vl lw ap st s k).1.1 49)) vl (yrsF vl lw ap st s k).1 tp lw sp ap sg (B + 30) := by
  intro Q hQ
  have h6 := C.okv.1.1
  have h9 := C.oks.2.2.2.1
  refine zC.of (by decide) (Nat.le_of_ble_eq_true rfl) ?_
  refine wX11_years_0 x v w q C.X _ _ ?_
  refine c_hasV_y C hv ?_
  refine ⟨_, _, rfl, rfl, ?_⟩
  rw [C.cs.2.2.2.2.2.2, nI_add, show (999 : Int32) = nI 999 from rfl, show (1 : Int32) = nI 1 from rfl, show (30 : Int32) = nI 30 from rfl, tk_lt (by omega) (by omega), tk_lt (by omega) (by omega), tk_le (by omega) (by omega)]
  refine ⟨fun h => absurd h (by decide), fun _ => ⟨fun h => absurd h (by omega), fun _ => ⟨fun h => absurd h (by omega), fun _ => ⟨fun _ => ?_, fun h => absurd hk h⟩⟩⟩⟩
  rintro _ rfl
  have loop : ∀ (j i : Nat) (I' : Nat → Nat → Int32) (J' : Nat → Nat → Int64) (nx' M' : Nat) (st' : Stt) (s' : Int64), i + j = k → st'.1 49 = st.1 49 + i → CIv G I' R K n x m v w q nx' lo M' lk sq vl st' tp lw sp ap sg (B + i) → (∀ b, m ≤ b → b < m + 21 → I' b = I b ∧ J' b = J b) → J' x 17 = s' → (yrsF vl lw ap st s i).1 = st' → (yrsF vl lw ap st s i).2 = s' → zV G (d + 7) mX11_years 0 0 43 [(0, .ref x), (1, .int (nI k)), (2, .long s), (4, .int (nI i))] [] (I', J', R, K, n) Q := by
    intro j
    induction j with
    | zero =>
      intro i I' J' nx' M' st' s' hi h49 C' f' hs e es
      refine wX11_years_43 x v w q C.X _ _ _ ⟨fun _ => ?_, fun h => absurd ((tk_le (by omega) (by omega)).mpr (by omega)) h⟩
      rw [C'.cs.2.2.2.2.2.2]
      rw [show k = i by omega, e] at hQ
      exact hQ I' J' R v w q nx' lo M' lk sq (C'.wide (by omega) (by omega)) (fun b b1 b2 => ⟨(f' b b1 b2).1, (f' b b1 b2).2, rfl⟩)
    | succ j ih =>
      intro i I' J' nx' M' st' s' hi h49 C' f' hs e es
      have g := C'.gm
      have hnx := C'.hr.2.2.1
      refine wX11_years_43 x v w q C.X _ _ _ ⟨fun h => ?_, fun _ => ?_⟩
      · rw [tk_le (by omega) (by omega)] at h
        omega
      refine x_prep C' ?_
      intro I1 C1 kr f1
      refine ⟨_, rfl, rfl, ?_⟩
      have m1 : ∀ b, m ≤ b → b < m + 21 → I1 b = I b := fun b b1 b2 => by rw [f1 b (by have := g.1; omega)]; exact (f' b b1 b2).1
      refine c_quarrel C1 hv ?_
      intro I2 J2 hs2 fj2 cs2 F2
      rw [hs] at hs2 cs2
      refine ⟨_, _, rfl, rfl, ?_⟩
      refine c_draw C.X (N := 9) (by omega) (by omega) ?_
      refine ⟨_, _, _, rfl, rfl, ?_⟩
      rw [hs2]
      have hp9 := drV_lt (s := drS (quaS ap s')) (N := 9) (by omega)
      have okq := C1.oks.1.qua (ap := ap) (s := s') hv
      have L2 := F2.law C1.lwh (fun b hb => by unfold aSt at hb; omega)
      have vw := C.vw
      have V2 : VL I2 v vl.1 vl.2.1 := F2.vl C1.lwh C1.cv.1 (fun b hb => by unfold aSt at hb; omega) (by omega) (by omega)
      have okf := okq.for_ (Wc := aW lw) C.okv.1 (by omega) hp9
      have okz : okT (B + i + 1) vl.1 vl.2.1 (yeaT vl lw ap st'.1 s') := C1.oks.1.yea C.okv.1 (by omega) hv
      have z49 : yeaT vl lw ap st'.1 s' 49 = st'.1 49 := yea49 C1.oks.1 C.okv.1 hv
      have d49 : dayT vl.1 vl.2.1 (yeaT vl lw ap st'.1 s') 49 = yeaT vl lw ap st'.1 s' 49 + 1 := up_at
      have tail : ∀ I3, CS I3 (x + 12) (forT (aW lw) vl.2.1 (quaT vl.1 ap st'.1 s') (drV (drS (quaS ap s')) 9)) → Fr (aSt (x + 12)) R (x + 3) I1 I3 → (∀ I17, I17 = zU I3 (x + 12) 8 ((if (999 : Int32) < ((I3 (x + 12) 8) + 3) then 999 else (I3 (x + 12) 8) + 3)) → zC G (d + 6) mX8_wear 0 0 [.ref (x + 12)] (I17, zU J2 x 17 (drS (quaS ap s')), R, K, n) (fun r h => ∃ (I18 : Nat → Nat → Int32), r = none ∧ h = (I18, zU J2 x 17 (drS (quaS ap s')), R, K, n) ∧ zC G (d + 6) mX1_write 0 0 [.ref (x + 28), .ref (x + 12)] (I18, zU J2 x 17 (drS (quaS ap s')), R, K, n) (fun r h => ∃ (I19 : Nat → Nat → Int32), r = none ∧ h = (I19, zU J2 x 17 (drS (quaS ap s')), R, K, n) ∧ zC G (d + 6) mX1_close 0 0 [.ref (x + 28)] (I19, zU J2 x 17 (drS (quaS ap s')), R, K, n) (fun r h => ∃ (I20 : Nat → Nat → Int32), r = none ∧ h = (I20, zU J2 x 17 (drS (quaS ap s')), R, K, n) ∧ zV G (d + 7) mX11_years 0 0 43 [(0, .ref (x)), (1, .int (nI k)), (2, .long s), (4, .int (nI i + 1))] [] (I20, zU J2 x 17 (drS (quaS ap s')), R, K, n) Q)))) := by
        intro I3 cs3 F3 I4 e4
        have o47 := okf.2.2.2.2.2.2.1
        have e8 : (if (999 : Int32) < I3 (x + 12) 8 + 3 then (999 : Int32) else I3 (x + 12) 8 + 3) = nI (min 999 (forT (aW lw) vl.2.1 (quaT vl.1 ap st'.1 s') (drV (drS (quaS ap s')) 9) 47 + 3)) := by
          rw [cs3.2.2.2.2.1, show (3 : Int32) = nI 3 from rfl, nI_add, show (999 : Int32) = nI 999 from rfl]
          by_cases h : 999 < forT (aW lw) vl.2.1 (quaT vl.1 ap st'.1 s') (drV (drS (quaS ap s')) 9) 47 + 3
          · rw [if_pos ((tk_lt (by omega) (by omega)).mpr h), Nat.min_eq_left (by omega)]
          · rw [if_neg (fun h2 => h ((tk_lt (by omega) (by omega)).mp h2)), Nat.min_eq_right (by omega)]
        rw [e8] at e4
        have cs4 := cs3.f47 (x := min 999 (forT (aW lw) vl.2.1 (quaT vl.1 ap st'.1 s') (drV (drS (quaS ap s')) 9) 47 + 3))
        rw [← e4] at cs4
        have F4 : Fr (aSt (x + 12)) R (x + 3) I1 I4 := by rw [e4]; exact F3.put ⟨by omega, by omega⟩
        have L4 := F4.law C1.lwh (fun b hb => by unfold aSt at hb; omega)
        have V4 : VL I4 v vl.1 vl.2.1 := F4.vl C1.lwh C1.cv.1 (fun b hb => by unfold aSt at hb; omega) (by omega) (by omega)
        refine c_wear (X_5 C.X) C1.g1 V4 C.okv.1 cs4 okz L4 ?_
        intro I6 cs6 c11 F6
        refine ⟨_, rfl, rfl, ?_⟩
        refine x_wrZ C1 (by omega) z49 okz kr cs6 c11 (F4.tr F6) ?_
        intro I7 hr kr7 cs7 lg7 f7
        refine ⟨_, rfl, rfl, ?_⟩
        refine x_close C1 hr kr7 cs7 (by omega) (by omega) lg7 (C1.oks.push (okz.day C.okv.1 (by omega)) (by omega) (by omega)) f7 ?_
        intro I8 nx8 M8 C8 f8
        refine ⟨_, rfl, rfl, ?_⟩
        rw [nI_1]
        refine ih (i + 1) I8 _ nx8 M8 (yearS vl lw ap st' s') (drS (quaS ap s')) (by omega) ?_ C8 (fun b b1 b2 => ⟨by rw [f8 b b1 b2]; exact m1 b b1 b2, ?_⟩) (zU_self ..) ?_ ?_
        · show dayT vl.1 vl.2.1 (yeaT vl lw ap st'.1 s') 49 = _
          omega
        · rw [zU_off (by have := g.1; omega), fj2 b (by have := g.1; omega)]
          exact (f' b b1 b2).2
        · show yearS vl lw ap (yrsF vl lw ap st s i).1 (yrsF vl lw ap st s i).2 = _
          rw [e, es]
        · show drS (quaS ap (yrsF vl lw ap st s i).2) = _
          rw [es]
      unfold forT at tail
      by_cases ho : 0 < quaT vl.1 ap st'.1 s' (3 * drV (drS (quaS ap s')) 9 + 2)
      · rw [if_pos ho] at tail
        refine c_pardon (X_5 C.X) C1.g1 V2 C.okv.1 cs2 okq L2 hp9 ho ?_
        intro I3 cs3 F3
        exact ⟨_, _, rfl, rfl, tail I3 cs3 (F2.tr F3)⟩
      · rw [if_neg ho] at tail
        refine c_pardon_n (X_5 C.X) cs2 okq (Or.inr ⟨_, hp9, rfl, by omega⟩) ?_
        exact ⟨_, _, rfl, rfl, tail I2 cs2 F2⟩
  exact loop k 0 I _ nx M st s (by omega) (by omega) C (fun b b1 b2 => ⟨rfl, zU_off (by have := C.gm.1; omega)⟩) (zU_self ..) rfl rfl
end
