/-! THE FACE: law -/
/-- the class answers r, and its state is then so; what it draws and which law holds may change -/
def XD (G : zG) (D : Nat) (Mt : zM) (args : List Value) (I : Nat → Nat → Int32) (J : Nat → Nat → Int64) (R : Nat → Nat → Option Nat) (K : Nat → Nat × Nat) (n x m : Nat) (r : Int32) (vl : Vt) (st : Stt) (tp : Tpt) (lw : Lwt) (sp : Spt) (ap : Nat) (sg : Sgt) (B : Nat) : Prop :=
  ∀ Q : Option Value → zH → Prop, (∀ I' J' R' v' w' q' nx' lo' M' lk' sq', CIv G I' R' K n x m v' w' q' nx' lo' M' lk' sq' vl st tp lw sp ap sg B → (∀ b, m ≤ b → b < m + 21 → I' b = I b ∧ J' b = J b ∧ R' b = R b) → Q (some (.int r)) (I', J', R', K, n)) → zC G D Mt 0 0 args (I, J, R, K, n) Q
theorem X_pw {G : zG} {R R1 : Nat → Nat → Option Nat} {K : Nat → Nat × Nat} {n x v w q : Nat} (S : hX G R K n x v w q) (h : ∀ b k, ¬ (b = x + 3 ∧ k = 1) → R1 b k = R b k) (hv : v ≠ x + 3) (hw : w ≠ x + 3) (hq : q ≠ x + 3) : hX G R1 K n x v w q := by
  unfold hX hSea hSig hGam hSt hSet hTape hHis hLr0 hVil hSpr at *
  simp (disch := omega) only [h]
  exact S
section
variable {G : zG} {d : Nat} {I : Nat → Nat → Int32} {J : Nat → Nat → Int64} {R : Nat → Nat → Option Nat} {K : Nat → Nat × Nat} {n : Nat} {x m v w q nx lo M t c : Nat} {lk sq : Nat → Nat} {tl : Nat → Nat} {tt : Nat → Nat → Nat} {vl : Vt} {st : Stt} {tp : Tpt} {lw : Lwt} {sp : Spt} {ap : Nat} {sg : Sgt} {B B' : Nat} {p p2 : Int32} {T : Nat → Nat} {Q : Option Value → zH → Prop}
/-- the class, another law in force -/
theorem CIv.lawed {k : Nat} {y : Int32} {z : Option Nat} (C : CIv G I R K n x m v w q nx lo M lk sq vl st tp lw sp ap sg B) (h : (k = 0 ∧ y = -1 ∧ z = none) ∨ (∃ j, j < lw.1 ∧ k = j + 1 ∧ y = nI j ∧ z = some (lk j))) : CIv G (zU I x 15 y) (zU R (x + 3) 1 z) K n x m v w q nx lo M lk sq vl st tp (lw.1, lw.2.1, k) sp ap sg B := by
  have g := C.gm
  have vw := C.vw
  have hnx := C.hr.2.2.1
  have hx : ∀ b, b ≠ x → zU I x 15 y b = I b := fun b hb => zU_off hb
  have hx1 : ∀ j, j ≠ 15 → zU I x 15 y x j = I x j := fun j hj => zU_ne (by omega)
  have hR : ∀ b, b ≠ x + 3 → zU R (x + 3) 1 z b = R b := fun b hb => zU_off hb
  refine ⟨X_pw C.X (fun b k hb => zU_ne hb) (by omega) (by omega) (by have := g.1; have := g.2.2.2.2.1; omega), C.vw, C.gm, ?_, ?_, C.okv, ?_, C.oks, ?_, C.hd, ?_, ?_, ?_, ?_, ?_, ⟨by rw [hx1 16 (by omega)]; exact C.ap.1, C.ap.2⟩⟩
  · exact C.tp.same (by rw [hx _ (by omega)]) (hx _ (by omega))
  · exact C.cv.same (fun b b1 b2 => hx b (by omega))
  · exact C.cs.same11 (fun k hk => by rw [hx _ (by omega)]) (fun b b1 b2 => hx b (by omega))
  · exact C.hr.same (hx _ (by omega)) (fun j hj hne => hx _ (by omega))
  · exact C.lg.same (fun b b1 b2 => hx b (by omega))
  · exact C.im.same (by rw [hx _ (by omega)]) (fun b b1 b2 => hx b (by omega))
  · obtain ⟨c1, c2, c3, c4⟩ := C.cl
    refine ⟨c1, by rw [hx1 13 (by omega)]; exact c2, fun k hk => ?_, ?_⟩
    · have := g.1
      have := g.2.2.1 k hk
      obtain ⟨a1, a2, a3, a4⟩ := c3 k hk
      refine ⟨by rw [hR _ (by omega)]; exact a1, Law_mono (y := x + 3) a2 (fun _ _ => rfl) (fun b _ hb => hR b hb) (Nat.le_refl _) (by omega), a3, fun j hj => ?_⟩
      rw [hx _ (by omega)]
      exact a4 j hj
    · show (k = 0 ∧ zU I x 15 y x 15 = -1 ∧ zU R (x + 3) 1 z (x + 3) 1 = none) ∨ (∃ j, j < lw.1 ∧ k = j + 1 ∧ zU I x 15 y x 15 = nI j ∧ zU R (x + 3) 1 z (x + 3) 1 = some (lk j))
      rw [zU_self, zU_self]
      exact h
  · obtain ⟨c1, c2, c3⟩ := C.cp
    refine ⟨c1, by rw [hx1 14 (by omega)]; exact c2, fun k hk => ?_⟩
    have := g.1
    have := g.2.2.2.1 k hk
    obtain ⟨a1, a2, a3⟩ := c3 k hk
    exact ⟨by rw [hR _ (by omega)]; exact a1, Spr_mono (y := x + 3) a2 (fun _ _ => rfl) (fun b _ hb => hR b hb) (Nat.le_refl _) (by omega), a3.same (fun b b1 b2 => hx b (by omega))⟩
  · exact C.cg.same (fun b b1 b2 => hx b (by omega))
theorem x_law_n (C : CIv G I R K n x m v w q nx lo M lk sq vl st tp lw sp ap sg B) (hp : bad lw.1 p) (h1 : p ≠ -1) : XD G (d + 1) mX11_law [.ref x, .int p] I J R K n x m 0 vl st tp lw sp ap sg B := by
  intro Q hQ
  replace hQ := hQ I J R v w q nx lo M lk sq C (fun _ _ _ => ⟨rfl, rfl, rfl⟩)
  have e := C.cl.2.1
  refine zC.of (by decide) (Nat.le_of_ble_eq_true rfl) ?_
  refine wX11_law_0 x v w q C.X _ ?_
  refine ⟨fun _ => hQ, fun h2 => ⟨fun h3 => ?_, fun _ => hQ⟩⟩
  rw [e] at h3
  rcases hp with h | h
  · refine absurd ?_ h1
    rw [Int32.lt_iff_toInt_lt] at h h2
    have e0 : (0 : Int32).toInt = 0 := rfl
    have e1 : (-1 : Int32).toInt = -1 := rfl
    exact Int32.toInt_inj.mp (by omega)
  · exact absurd h (Int32.not_le.mpr h3)
theorem x_law_0 (C : CIv G I R K n x m v w q nx lo M lk sq vl st tp lw sp ap sg B) : XD G (d + 1) mX11_law [.ref x, .int (-1)] I J R K n x m 1 vl st tp (lw.1, lw.2.1, 0) sp ap sg B := by
  intro Q hQ
  have g := C.gm
  have hl := C.cl.1
  refine zC.of (by decide) (Nat.le_of_ble_eq_true rfl) ?_
  refine wX11_law_0 x v w q C.X _ ?_
  refine ⟨fun h => absurd h (by decide), fun _ => ⟨fun _ => ?_, fun h => absurd ?_ h⟩⟩
  · rintro _ rfl
    refine ⟨fun _ => ?_, fun h => absurd rfl h⟩
    rintro _ rfl
    have C' := C.lawed (k := 0) (Or.inl ⟨rfl, rfl, rfl⟩)
    exact ⟨v, w, q, C'.X, hQ _ J _ v w q nx lo M lk sq C' (fun b b1 b2 => ⟨zU_off (by have := g.1; omega), rfl, zU_off (by have := g.1; omega)⟩)⟩
  · rw [C.cl.2.1, Int32.lt_iff_toInt_lt, tk_t (by omega)]
    have e1 : (-1 : Int32).toInt = -1 := rfl
    omega
theorem x_law_y (C : CIv G I R K n x m v w q nx lo M lk sq vl st tp lw sp ap sg B) {k : Nat} (hk : k < lw.1) : XD G (d + 1) mX11_law [.ref x, .int (nI k)] I J R K n x m 1 vl st tp (lw.1, lw.2.1, k + 1) sp ap sg B := by
  intro Q hQ
  have g := C.gm
  have hl := C.cl.1
  refine zC.of (by decide) (Nat.le_of_ble_eq_true rfl) ?_
  refine wX11_law_0 x v w q C.X _ ?_
  refine ⟨fun h => ((tk_m1l (by omega)).mp h).elim, fun _ => ⟨fun _ => ?_, fun h => absurd ?_ h⟩⟩
  · rintro _ rfl
    refine ⟨fun h => ((tk_m1 (by omega)).mp h).elim, fun _ => ⟨(tk_in (by omega) (by omega)).mpr (by omega), ?_⟩⟩
    rw [tk_c (by omega), (C.cl.2.2.1 k hk).1]
    rintro _ rfl
    have C' := C.lawed (k := k + 1) (Or.inr ⟨k, hk, rfl, rfl, rfl⟩)
    exact ⟨v, w, q, C'.X, hQ _ J _ v w q nx lo M lk sq C' (fun b b1 b2 => ⟨zU_off (by have := g.1; omega), rfl, zU_off (by have := g.1; omega)⟩)⟩
  · rw [C.cl.2.1, tk_lt (by omega) (by omega)]
    exact hk
theorem MIv.lawed {k : Nat} {y : Int32} (C : MIv G I J R K n m t c tl tt vl st tp lw sp ap sg B) (h : (k = 0 ∧ y = -1) ∨ (∃ j, j < lw.1 ∧ k = j + 1 ∧ y = nI j)) : MIv G (zU I m 34 y) J R K n m t c tl tt vl st tp (lw.1, lw.2.1, k) sp ap sg B := by
  have hb : ∀ b, b ≠ m → zU I m 34 y b = I b := fun b hb => zU_off hb
  have hm : ∀ j, j ≠ 34 → zU I m 34 y m j = I m j := fun j hj => zU_ne (by omega)
  refine ⟨C.S_, ?_, C.okv_, ?_, C.oks_, ?_, ?_, ?_, ?_, ?_, by rw [hm 35 (by omega)]; exact C.ap_⟩
  · unfold mV VM
    rw [hm 26 (by omega), hm 27 (by omega), hb _ (by omega), hb _ (by omega), hb _ (by omega)]
    exact C.v_
  · unfold mS
    rw [hm 39 (by omega), hm 47 (by omega), hb (m + 13) (by omega), hb (m + 17) (by omega), hb (m + 20) (by omega)]
    exact C.s_
  · unfold mT
    rw [hm 6 (by omega), hb _ (by omega)]
    exact C.tp_
  · unfold LMo
    rw [hm 7 (by omega), hb _ (by omega), hb _ (by omega), hb _ (by omega), hb _ (by omega)]
    exact C.lm_
  · unfold mHl
    rw [zU_self]
    exact h
  · unfold mP
    rw [hm 30 (by omega), hb _ (by omega), hb _ (by omega)]
    exact C.p_
  · unfold mG
    rw [hm 44 (by omega), hb _ (by omega)]
    exact C.g_
theorem y_law_n (C : MIv G I J R K n m t c tl tt vl st tp lw sp ap sg B) (hp : bad lw.1 p) (h1 : p ≠ -1) : YC G (d + 2) mX12_law [.ref m, .int p] I J R K n m t c tl tt 0 vl st tp lw sp ap sg B := by
  intro Q hQ
  obtain ⟨M1, f1⟩ := C.z0 (y := 0)
  replace hQ := hQ _ M1 f1
  have hl := C.lm_.1
  refine zC.of (by decide) (Nat.le_of_ble_eq_true rfl) ?_
  refine wX12_law_0 m t c C.S_ _ ?_
  rintro _ rfl
  refine ⟨fun h => absurd h h1, fun _ => ?_⟩
  rw [M1.lm_.2.1]
  refine c_in_n (N := lw.1) (tk_pm (by omega)) (by omega) hp ?_
  refine ⟨_, _, rfl, rfl, ?_⟩
  exact ⟨fun _ => hQ, fun h => absurd rfl h⟩
theorem y_law_0 (C : MIv G I J R K n m t c tl tt vl st tp lw sp ap sg B) : YC G (d + 2) mX12_law [.ref m, .int (-1)] I J R K n m t c tl tt 1 vl st tp (lw.1, lw.2.1, 0) sp ap sg B := by
  intro Q hQ
  obtain ⟨M1, f1⟩ := C.z0 (y := 0)
  refine zC.of (by decide) (Nat.le_of_ble_eq_true rfl) ?_
  refine wX12_law_0 m t c C.S_ _ ?_
  rintro _ rfl
  refine ⟨fun _ => ?_, fun h => absurd rfl h⟩
  rintro _ rfl
  exact hQ _ (M1.lawed (k := 0) (Or.inl ⟨rfl, rfl⟩)) (fun b hb => by rw [zU_off (by omega)]; exact f1 b hb)
theorem y_law_y (C : MIv G I J R K n m t c tl tt vl st tp lw sp ap sg B) {k : Nat} (hk : k < lw.1) : YC G (d + 2) mX12_law [.ref m, .int (nI k)] I J R K n m t c tl tt 1 vl st tp (lw.1, lw.2.1, k + 1) sp ap sg B := by
  intro Q hQ
  obtain ⟨M1, f1⟩ := C.z0 (y := 0)
  have hl := C.lm_.1
  refine zC.of (by decide) (Nat.le_of_ble_eq_true rfl) ?_
  refine wX12_law_0 m t c C.S_ _ ?_
  rintro _ rfl
  refine ⟨fun h => ((tk_m1 (by omega)).mp h).elim, fun _ => ?_⟩
  rw [M1.lm_.2.1]
  refine c_in_y (N := lw.1) (tk_pm (by omega)) (by omega) hk ?_
  refine ⟨_, _, rfl, rfl, ?_⟩
  refine ⟨fun h => absurd h (by decide), fun _ => ?_⟩
  rintro _ rfl
  exact hQ _ (M1.lawed (k := k + 1) (Or.inr ⟨k, hk, rfl, rfl⟩)) (fun b hb => by rw [zU_off (by omega)]; exact f1 b hb)
end
