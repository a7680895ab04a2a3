/-! THE FACE: perform -/
section
variable {G : zG} {d : Nat} {I : Nat → Nat → Int32} {J : Nat → Nat → Int64} {R : Nat → Nat → Option Nat} {K : Nat → Nat × Nat} {n : Nat} {x m v w q nx lo M t c : Nat} {lk sq : Nat → Nat} {tl : Nat → Nat} {tt : Nat → Nat → Nat} {vl : Vt} {st : Stt} {tp : Tpt} {lw : Lwt} {sp : Spt} {ap : Nat} {sg : Sgt} {B B' : Nat} {p p2 : Int32} {T T' : Nat → Nat} {LG LG' : Nat → Nat → Nat} {Q : Option Value → zH → Prop}
theorem okSt.wide (O : okSt vl st B) (h : B ≤ B') (h2 : B' < 100000) : okSt vl st B' := by
  obtain ⟨o1, o2, o3, o4, o5, o6⟩ := O
  exact ⟨o1.wide h h2, fun j hj => (o2 j hj).wide h h2, fun y hy => (o3 y hy).wide h h2, o4, o5, o6⟩
theorem CIv.wide (C : CIv G I R K n x m v w q nx lo M lk sq vl st tp lw sp ap sg B) (h : B ≤ B') (h2 : B' < 100000) : CIv G I R K n x m v w q nx lo M lk sq vl st tp lw sp ap sg B' := ⟨C.X, C.vw, C.gm, C.tp, C.cv, C.okv, C.cs, C.oks.wide h h2, C.hr, C.hd, C.lg, C.im, C.cl, C.cp, C.cg, C.ap⟩
theorem MIv.wide (C : MIv G I J R K n m t c tl tt vl st tp lw sp ap sg B) (h : B ≤ B') (h2 : B' < 100000) : MIv G I J R K n m t c tl tt vl st tp lw sp ap sg B' := ⟨C.S_, C.v_, C.okv_, C.s_, C.oks_.wide h h2, C.tp_, C.lm_, C.hl_, C.p_, C.g_, C.ap_⟩
theorem chn_push {hs : List (Nat → Nat)} (h : chn (T 49) hs) (h1 : T 49 ≤ T' 49) (h2 : T' 49 ≤ T 49 + 1) : chn (T' 49) (push T hs) := chn_take (T :: hs) (T' 49) 40 ⟨h1, h2, h⟩
/-- the state behind a step -/
def stpS (vl : Vt) (lw : Lwt) (P : Nat → Int32) (i : Nat) (st : Stt) : Stt := (stepT (aW lw) vl.1 vl.2.1 st.1 (P (3 * i)) (P (3 * i + 1)) (P (3 * i + 2)), (if P (3 * i) = 3 then dlog vl.1 vl.2.1 st.1 st.2.1 else st.2.1), push st.1 st.2.2.1, st.2.2.2)
noncomputable def perA (vl : Vt) (lw : Lwt) (P : Nat → Int32) : Nat → Nat → Stt → Nat × Stt
  | 0, i, st => (i, st)
  | j + 1, i, st => @ite _ (canStep vl.1 vl.2.1 st.1 (P (3 * i)) (P (3 * i + 1)) (P (3 * i + 2))) (Classical.propDecidable _) (perA vl lw P j (i + 1) (stpS vl lw P i st)) (i, st)
/-- write, behind prepare and wear -/
theorem x_wr {I6 : Nat → Nat → Int32} (C : CIv G I R K n x m v w q nx lo M lk sq vl st tp lw sp ap sg B) (h9 : st.1 49 < 999) (kr : KR (I (x + 30 + nx)) st.1) (cs : CS I6 (x + 12) (dayT vl.1 vl.2.1 st.1)) (c11 : I6 (x + 12) 11 = nI (cameA st.1 vl.1)) (F6 : Fr (aSt (x + 12)) R (x + 3) I I6) (hQ : ∀ I', CHr I' (x + 28) st.2.2.1 nx → KR (I' (x + 30 + nx)) st.1 → CS I' (x + 12) (dayT vl.1 vl.2.1 st.1) → CLg I' (x + 28) (dayT vl.1 vl.2.1 st.1 49) lo (max M (dayT vl.1 vl.2.1 st.1 49)) (dlog vl.1 vl.2.1 st.1 st.2.1) → (∀ b k, ¬ scr x w q nx lk lw.1 b k → ¬ (x + 12 ≤ b ∧ b < x + 19) → ¬ (x + 72 ≤ b ∧ b < x + 75) → I' b k = I b k) → Q none (I', J, R, K, n)) : zC G (d + 4) mX1_write 0 0 [.ref (x + 28), .ref (x + 12)] (I6, J, R, K, n) Q := by
  have hnx := C.hr.2.2.1
  have vw := C.vw
  have h6 := C.okv.1.1
  have hM := C.hd.2.2.2.1
  have e49 : dayT vl.1 vl.2.1 st.1 49 = st.1 49 + 1 := up_at
  have low : ∀ b, ¬ aSt (x + 12) b → b ≠ x + 11 → b < x + 111 → I6 b = I b := fun b h1 h2 h3 => F6.low C.lwh h1 h2 h3
  have V6 : VL I6 v vl.1 vl.2.1 := F6.vl C.lwh C.cv.1 (fun b hb => by unfold aSt at hb; omega) (by omega) (by omega)
  have O6 := C.oks.1.day C.okv.1 (by omega)
  refine c_write (X_9 C.X) (X_5 C.X) (by omega) (by omega) V6 C.okv.1 cs O6 (by omega) c11 ?_
  intro I7 w0 w1 w2 f7
  rw [e49, Nat.add_sub_cancel] at w0 w1 w2
  have l47 : dayT vl.1 vl.2.1 st.1 47 = st.1 47 := by unfold dayT wornT; rw [up_ne (by omega), up_ne (by omega), up_ne (by omega), wearF_ne _ _ (by omega)]
  rw [l47] at w2
  rw [whitesA_day h6] at w0
  refine hQ I7 ?_ ?_ ?_ ?_ ?_
  · exact C.hr.same (by rw [f7 _ (by omega) (by omega) (by omega)]; exact low _ (by unfold aSt; omega) (by omega) (by omega)) (fun j hj _ => by rw [f7 _ (by omega) (by omega) (by omega)]; exact low _ (by unfold aSt; omega) (by omega) (by omega))
  · rw [f7 _ (by omega) (by omega) (by omega), low _ (by unfold aSt; omega) (by omega) (by omega)]
    exact kr
  · exact cs.same (fun b b1 b2 => f7 b (by omega) (by omega) (by omega))
  · rw [e49]
    refine C.lg.day hM (fun w y hw => ?_)
    have hl : ∀ b, x + 72 ≤ b → b < x + 75 → I6 b = I b := fun b b1 b2 => low b (by unfold aSt; omega) (by omega) (by omega)
    obtain rfl | rfl | rfl : w = 0 ∨ w = 1 ∨ w = 2 := by omega
    · rw [← hl _ (by omega) (by omega)]; exact w0 y
    · rw [← hl _ (by omega) (by omega)]; exact w1 y
    · rw [← hl _ (by omega) (by omega)]; exact w2 y
  · intro b k hb h12 h72
    rw [f7 b (by omega) (by omega) (by omega)]
    exact C.fr F6 (fun h => h12 (by unfold aSt at h; omega)) hb
theorem x_perform_n (C : CIv G I R K n x m v w q nx lo M lk sq vl st tp lw sp ap sg B) (hp : ¬ 0 < vl.1 ∨ bad sp.1 p) : XC G (d + 2) mX11_perform [.ref x, .int p] I J R K n x m (-1) vl st tp lw sp ap sg B := by
  intro Q hQ
  replace hQ := hQ I v w q nx lo M lk sq C (fun _ _ _ => rfl)
  refine zC.of (by decide) (Nat.le_of_ble_eq_true rfl) ?_
  refine wX11_perform_0 x v w q C.X _ ?_
  by_cases hv : 0 < vl.1
  · refine c_hasV_y C hv ?_
    refine ⟨_, _, rfl, rfl, ?_⟩
    refine ⟨fun h => absurd h (by decide), fun _ => ?_⟩
    refine c_xs C ?_
    refine ⟨_, _, rfl, rfl, ?_⟩
    exact ⟨fun _ => hQ, fun h2 => absurd (told_n (hp.resolve_left (fun h => h hv))) h2⟩
  · refine c_hasV_n C hv ?_
    refine ⟨_, _, rfl, rfl, ?_⟩
    exact ⟨fun _ => hQ, fun h => absurd rfl h⟩
theorem x_perform_y (C : CIv G I R K n x m v w q nx lo M lk sq vl st tp lw sp ap sg B) (hv : 0 < vl.1) {k : Nat} (hk : k < sp.1) (hB : B + 20 < 100000) : XC G (d + 7) mX11_perform [.ref x, .int (nI k)] I J R K n x m (nI (perA vl lw (sp.2.2 k) (sp.2.1 k) 0 st).1) vl (perA vl lw (sp.2.2 k) (sp.2.1 k) 0 st).2 tp lw sp ap sg (B + 16) := by
  intro Q hQ
  obtain ⟨h4, -, c3⟩ := C.cp
  obtain ⟨a1, a2, a3⟩ := c3 k hk
  have h16 := a3.1
  refine zC.of (by decide) (Nat.le_of_ble_eq_true rfl) ?_
  refine wX11_perform_0 x v w q C.X _ ?_
  refine c_hasV_y C hv ?_
  refine ⟨_, _, rfl, rfl, ?_⟩
  refine ⟨fun h => absurd h (by decide), fun _ => ?_⟩
  refine c_xs C ?_
  refine ⟨_, _, rfl, rfl, ?_⟩
  rw [told_y (by omega) hk]
  refine ⟨fun h => absurd h (by decide), fun _ => ⟨(tk_in (by omega) (by omega)).mpr (by omega), ?_⟩⟩
  rw [tk_c (by omega)]
  refine ⟨sq k, a1, a2, ?_⟩
  have loop : ∀ (j i : Nat) (I' : Nat → Nat → Int32) (nx' M' : Nat) (st' : Stt), i + j = sp.2.1 k → CIv G I' R K n x m v w q nx' lo M' lk sq vl st' tp lw sp ap sg (B + i) → (∀ b, m ≤ b → b < m + 21 → I' b = I b) → perA vl lw (sp.2.2 k) j i st' = perA vl lw (sp.2.2 k) (sp.2.1 k) 0 st → zV G (d + 7) mX11_perform 0 0 26 [(0, .ref x), (1, .int (nI k)), (2, .ref (sq k)), (3, .int (nI i))] [] (I', J, R, K, n) Q := by
    intro j
    induction j with
    | zero =>
      intro i I' nx' M' st' hi C' f' e
      rw [perA] at e
      refine wX11_perform_26 x v w q (sq k) C.X a2 _ _ ⟨fun _ => ?_, fun h => absurd ?_ h⟩
      · rw [(C'.cp.2.2 k hk).2.2.2.1]
        rw [← e] at hQ
        refine qI ?_ (hQ I' v w q nx' lo M' lk sq (C'.wide (by omega) (by omega)) f')
        show nI i = _
        rw [show i = sp.2.1 k by omega]
      · rw [(C'.cp.2.2 k hk).2.2.2.1, tk_le (by omega) (by omega)]
        omega
    | succ j ih =>
      intro i I' nx' M' st' hi C' f' e
      have g := C'.gm
      have hnx := C'.hr.2.2.1
      have h9 := C'.oks.2.2.2.1
      rw [perA] at e
      refine wX11_perform_26 x v w q (sq k) C.X a2 _ _ ⟨fun h => ?_, fun _ => ?_⟩
      · rw [(C'.cp.2.2 k hk).2.2.2.1, tk_le (by omega) (by omega)] at h
        omega
      refine x_prep C' ?_
      intro I1 C1 kr f1
      refine ⟨_, rfl, rfl, ?_⟩
      have m1 : ∀ b, m ≤ b → b < m + 21 → I1 b = I b := fun b b1 b2 => by rw [f1 b (by have := g.1; omega)]; exact f' b b1 b2
      refine c_take (X_5 C.X) C1.g1 C1.cv.1 C.okv.1 C1.cs C1.oks.1 C1.lwh a2 (C1.cp.2.2 k hk).2.2 (i := i) (by omega) ?_ ?_
      · intro hc I2 cs2 c11 F2
        rw [if_pos hc] at e
        have hy := stepY_le (Wc := aW lw) (Y := vl.2.1) (T := st'.1) (k := sp.2.2 k (3 * i)) (a := sp.2.2 k (3 * i + 1)) C1.oks.1
        have ok2 := C1.oks.1.step (Wc := aW lw) C.okv.1 (by omega) hc
        have e49 := step49 (Wc := aW lw) C1.oks.1 C.okv.1 hc
        have C2q : I2 (sq k + 1) = I1 (sq k + 1) := funext fun y => C1.fr F2 (fun h => by have := g.1; have := g.2.2.2.1 k hk; unfold aSt at h; omega) (fun h => by
          have g7 := g.2.2.2.2.2.2.1 k hk
          have g8 := g.2.2.2.2.2.2.2.1 k
          have := g.1
          have := g.2.2.2.1 k hk
          have vw := C.vw
          rcases h with h | h | h | h | h | h | h | h | h | h | ⟨j, hj, h⟩
          · omega
          · omega
          · omega
          · omega
          · omega
          · omega
          · omega
          · omega
          · omega
          · omega
          · have := g8 j hk hj; omega)
        refine ⟨_, _, rfl, rfl, fun h => ((tk_m1 (by omega)).mp h).elim, fun _ => ⟨(tk_in (by omega) (by omega)).mpr (by omega), ?_⟩⟩
        rw [tk_c (by omega), C2q, ((C1.cp.2.2 k hk).2.2.2.2 i (by omega)).1, nI_1]
        have low : ∀ b, ¬ aSt (x + 12) b → b ≠ x + 11 → b < x + 111 → I2 b = I1 b := fun b h1 h2 h3 => F2.low C1.lwh h1 h2 h3
        refine ⟨fun h3 => ?_, fun h3 => ?_⟩
        · have eD : stepT (aW lw) vl.1 vl.2.1 st'.1 (sp.2.2 k (3 * i)) (sp.2.2 k (3 * i + 1)) (sp.2.2 k (3 * i + 2)) = dayT vl.1 vl.2.1 st'.1 := by
            unfold stepT
            rw [h3, if_neg (by decide), if_neg (by decide), if_neg (by decide)]
          have h999 : st'.1 49 < 999 := by
            rcases hc with ⟨h, -⟩ | ⟨h, -⟩ | ⟨h, -⟩ | ⟨-, h⟩
            · rw [h3] at h; exact absurd h (by decide)
            · rw [h3] at h; exact absurd h (by decide)
            · rw [h3] at h; exact absurd h (by decide)
            · exact h
          rw [eD] at cs2 ok2
          have eS : stpS vl lw (sp.2.2 k) i st' = (dayT vl.1 vl.2.1 st'.1, dlog vl.1 vl.2.1 st'.1 st'.2.1, push st'.1 st'.2.2.1, st'.2.2.2) := by
            unfold stpS
            rw [if_pos h3, eD]
          have e49' : dayT vl.1 vl.2.1 st'.1 49 = st'.1 49 + 1 := up_at
          refine x_wr C1 h999 kr cs2 (c11 h3) F2 ?_
          intro I7 hr kr7 cs7 lg7 f7
          refine ⟨_, rfl, rfl, ?_⟩
          refine x_close C1 hr kr7 cs7 (by omega) (by omega) lg7 (C1.oks.push ok2 (by omega) (by omega)) f7 ?_
          intro I8 nx8 M8 C8 f8
          refine ⟨_, rfl, rfl, ih (i + 1) I8 nx8 M8 _ (by omega) C8 (fun b b1 b2 => by rw [f8 b b1 b2]; exact m1 b b1 b2) (by rw [← eS]; exact e)⟩
        · have eS : stpS vl lw (sp.2.2 k) i st' = actS st' (stepT (aW lw) vl.1 vl.2.1 st'.1 (sp.2.2 k (3 * i)) (sp.2.2 k (3 * i + 1)) (sp.2.2 k (3 * i + 2))) := by
            unfold stpS actS
            rw [if_neg h3]
          rw [if_neg h3] at e49
          have hM := C1.hd.2.2.2.1
          refine x_close C1 (C1.hr.same (low _ (by unfold aSt; omega) (by omega) (by omega)) (fun j hj _ => low _ (by unfold aSt; omega) (by omega) (by omega))) (by rw [low _ (by unfold aSt; omega) (by omega) (by omega)]; exact kr) cs2 (by omega) (by omega) (LG' := st'.2.1) ?_ (C1.oks.push ok2 (by omega) (by omega)) (fun b k hb h12 _ => C1.fr F2 (fun h => h12 (by unfold aSt at h; omega)) hb) ?_
          · rw [e49, show max M' (st'.1 49) = M' by omega]
            exact C1.lg.same (fun b b1 b2 => low b (by unfold aSt; omega) (by omega) (by omega))
          · intro I8 nx8 M8 C8 f8
            refine ⟨_, rfl, rfl, ih (i + 1) I8 nx8 M8 _ (by omega) C8 (fun b b1 b2 => by rw [f8 b b1 b2]; exact m1 b b1 b2) ?_⟩
            rw [eS] at e
            exact e
      · intro hc
        rw [if_neg hc] at e
        rw [← e] at hQ
        exact ⟨_, _, rfl, rfl, fun _ => hQ I1 v w q nx' lo M' lk sq (C1.wide (by omega) (by omega)) m1, fun h => absurd rfl h⟩
  exact loop (sp.2.1 k) 0 I nx M st (by omega) C (fun _ _ _ => rfl) rfl
end
