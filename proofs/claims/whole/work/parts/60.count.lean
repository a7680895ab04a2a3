/-! THE FACE: contracts of both sides in the same words -/
/-- the class answers r, and its state is then so -/
def XC (G : zG) (D : Nat) (Mt : zM) (args : List Value) (I : Nat → Nat → Int32) (J : Nat → Nat → Int64) (R : Nat → Nat → Option Nat) (K : Nat → Nat × Nat) (n x m : Nat) (r : Int32) (vl : Vt) (st : Stt) (tp : Tpt) (lw : Lwt) (sp : Spt) (ap : Nat) (sg : Sgt) (B : Nat) : Prop :=
  ∀ Q : Option Value → zH → Prop, (∀ I' v' w' q' nx' lo' M' lk' sq', CIv G I' R K n x m v' w' q' nx' lo' M' lk' sq' vl st tp lw sp ap sg B → (∀ b, m ≤ b → b < m + 21 → I' b = I b) → Q (some (.int r)) (I', J, R, K, n)) → zC G D Mt 0 0 args (I, J, R, K, n) Q
/-- the model answers r, and its state is then so -/
def YC (G : zG) (D : Nat) (Mt : zM) (args : List Value) (I : Nat → Nat → Int32) (J : Nat → Nat → Int64) (R : Nat → Nat → Option Nat) (K : Nat → Nat × Nat) (n m t c : Nat) (tl : Nat → Nat) (tt : Nat → Nat → Nat) (r : Int32) (vl : Vt) (st : Stt) (tp : Tpt) (lw : Lwt) (sp : Spt) (ap : Nat) (sg : Sgt) (B : Nat) : Prop :=
  ∀ Q : Option Value → zH → Prop, (∀ I', MIv G I' J R K n m t c tl tt vl st tp lw sp ap sg B → (∀ b, b < m ∨ m + 21 ≤ b → I' b = I b) → Q (some (.int r)) (I', J, R, K, n)) → zC G D Mt 0 0 args (I, J, R, K, n) Q
/-- the same where it may have gone through a law -/
def YL (G : zG) (D : Nat) (Mt : zM) (args : List Value) (I : Nat → Nat → Int32) (J : Nat → Nat → Int64) (R : Nat → Nat → Option Nat) (K : Nat → Nat × Nat) (n m : Nat) (tl : Nat → Nat) (tt : Nat → Nat → Nat) (r : Int32) (vl : Vt) (st : Stt) (tp : Tpt) (lw : Lwt) (sp : Spt) (ap : Nat) (sg : Sgt) (B : Nat) : Prop :=
  ∀ Q : Option Value → zH → Prop, (∀ I' J' R' t' c', MIv G I' J' R' K n m t' c' tl tt vl st tp lw sp ap sg B → (∀ b, b < m ∨ m + 21 ≤ b → I' b = I b ∧ J' b = J b) → (∀ b, b ≠ m → R' b = R b) → Q (some (.int r)) (I', J', R', K, n)) → zC G D Mt 0 0 args (I, J, R, K, n) Q
def cntA (vl : Vt) (st : Stt) (tp : Tpt) (lw : Lwt) (sp : Spt) (ap : Nat) (sg : Sgt) (p : Int32) : Int32 :=
  if p = 0 then nI vl.1 else if p = 1 then nI vl.2.2.1 else if p = 2 then nI lw.1 else if p = 3 then nI sp.1 else if p = 4 then nI tp.1 else if p = 5 then (if lw.2.2 = 0 then -1 else nI (lw.2.2 - 1)) else if p = 6 then nI (st.1 49) else if p = 7 then nI (st.1 47) else if p = 8 then nI (st.1 48) else if p = 9 then nI (st.1 45) else if p = 10 then nI (st.1 46) else if p = 11 then nI ap else if p = 12 then nI sg.1 else if p = 13 then nI (min 60 (st.1 49)) else if p = 14 then nI st.2.2.1.length else -1000000
section
variable {G : zG} {d : Nat} {I : Nat → Nat → Int32} {J : Nat → Nat → Int64} {R : Nat → Nat → Option Nat} {K : Nat → Nat × Nat} {n : Nat} {x m v w q nx lo M t c : Nat} {lk sq : Nat → Nat} {tl : Nat → Nat} {tt : Nat → Nat → Nat} {vl : Vt} {st : Stt} {tp : Tpt} {lw : Lwt} {sp : Spt} {ap : Nat} {sg : Sgt} {B : Nat} {p : Int32}
theorem held_x (C : CIv G I R K n x m v w q nx lo M lk sq vl st tp lw sp ap sg B) : I x 15 = if lw.2.2 = 0 then -1 else nI (lw.2.2 - 1) := by
  rcases C.cl.2.2.2 with ⟨e, h, -⟩ | ⟨k, -, e, h, -⟩
  · rw [if_pos e]; exact h
  · rw [if_neg (by omega), e, Nat.add_sub_cancel]; exact h
theorem held_y (C : MIv G I J R K n m t c tl tt vl st tp lw sp ap sg B) : I m 34 = if lw.2.2 = 0 then -1 else nI (lw.2.2 - 1) := by
  rcases C.hl_ with ⟨e, h⟩ | ⟨k, -, e, h⟩
  · rw [if_pos e]; exact h
  · rw [if_neg (by omega), e, Nat.add_sub_cancel]; exact h
/-- the model's throw mark -/
theorem MIv.z0 (C : MIv G I J R K n m t c tl tt vl st tp lw sp ap sg B) {y : Int32} : MIv G (zU I m 0 y) J R K n m t c tl tt vl st tp lw sp ap sg B ∧ (∀ b, b < m ∨ m + 21 ≤ b → zU I m 0 y b = I b) := by
  refine ⟨C.same C.S_ (fun b k h => zU_ne (fun e => h (Or.inl ⟨e.1, Or.inl e.2⟩))) ?_, fun b hb => zU_off (by omega)⟩
  obtain ⟨l1, l2, l3, l4, l5⟩ := C.lm_
  unfold LMo
  rw [zU_ne (by omega), zU_off (by omega), zU_off (by omega), zU_off (by omega), zU_off (by omega)]
  exact ⟨l1, l2, l3, l4, l5⟩
theorem x_count (C : CIv G I R K n x m v w q nx lo M lk sq vl st tp lw sp ap sg B) : XC G (d + 2) mX11_count [.ref x, .int p] I J R K n x m (cntA vl st tp lw sp ap sg p) vl st tp lw sp ap sg B := by
  intro Q hQ
  replace hQ := hQ I v w q nx lo M lk sq C (fun _ _ _ => rfl)
  refine zC.of (by decide) (Nat.le_of_ble_eq_true rfl) ?_
  refine wX11_count_0 x v w q C.X _ ?_
  refine ⟨fun h => ?_, fun h => ?_, fun h => ?_, fun h => ?_, fun h => ?_, fun h => ?_, fun h => ?_, fun h => ?_, fun h => ?_, fun h => ?_, fun h => ?_, fun h => ?_, fun h => ?_, fun h => ?_, fun h => ?_, fun g0 g1 g2 g3 g4 g5 g6 g7 g8 g9 g10 g11 g12 g13 g14 => ?_⟩
  · subst h
    refine qI ?_ hQ
    rw [C.cv.1.1]
    unfold cntA; rw [if_pos rfl]
  · subst h
    refine qI ?_ hQ
    rw [C.cv.2.1]
    unfold cntA; rw [if_neg (by decide), if_pos rfl]
  · subst h
    refine qI ?_ hQ
    rw [C.cl.2.1]
    unfold cntA; rw [if_neg (by decide), if_neg (by decide), if_pos rfl]
  · subst h
    refine qI ?_ hQ
    rw [C.cp.2.1]
    unfold cntA; rw [if_neg (by decide), if_neg (by decide), if_neg (by decide), if_pos rfl]
  · subst h
    refine qI ?_ hQ
    rw [C.tp.2.1]
    unfold cntA; rw [if_neg (by decide), if_neg (by decide), if_neg (by decide), if_neg (by decide), if_pos rfl]
  · subst h
    refine qI ?_ hQ
    rw [held_x C]
    unfold cntA; rw [if_neg (by decide), if_neg (by decide), if_neg (by decide), if_neg (by decide), if_neg (by decide), if_pos rfl]
  · subst h
    refine qI ?_ hQ
    rw [C.cs.2.2.2.2.2.2]
    unfold cntA; rw [if_neg (by decide), if_neg (by decide), if_neg (by decide), if_neg (by decide), if_neg (by decide), if_neg (by decide), if_pos rfl]
  · subst h
    refine qI ?_ hQ
    rw [C.cs.2.2.2.2.1]
    unfold cntA; rw [if_neg (by decide), if_neg (by decide), if_neg (by decide), if_neg (by decide), if_neg (by decide), if_neg (by decide), if_neg (by decide), if_pos rfl]
  · subst h
    refine qI ?_ hQ
    rw [C.cs.2.2.2.2.2.1]
    unfold cntA; rw [if_neg (by decide), if_neg (by decide), if_neg (by decide), if_neg (by decide), if_neg (by decide), if_neg (by decide), if_neg (by decide), if_neg (by decide), if_pos rfl]
  · subst h
    refine qI ?_ hQ
    rw [C.cs.2.2.1]
    unfold cntA; rw [if_neg (by decide), if_neg (by decide), if_neg (by decide), if_neg (by decide), if_neg (by decide), if_neg (by decide), if_neg (by decide), if_neg (by decide), if_neg (by decide), if_pos rfl]
  · subst h
    refine qI ?_ hQ
    rw [C.cs.2.2.2.1]
    unfold cntA; rw [if_neg (by decide), if_neg (by decide), if_neg (by decide), if_neg (by decide), if_neg (by decide), if_neg (by decide), if_neg (by decide), if_neg (by decide), if_neg (by decide), if_neg (by decide), if_pos rfl]
  · subst h
    refine qI ?_ hQ
    rw [C.ap.1]
    unfold cntA; rw [if_neg (by decide), if_neg (by decide), if_neg (by decide), if_neg (by decide), if_neg (by decide), if_neg (by decide), if_neg (by decide), if_neg (by decide), if_neg (by decide), if_neg (by decide), if_neg (by decide), if_pos rfl]
  · subst h
    refine qI ?_ hQ
    rw [C.cg.2.1]
    unfold cntA; rw [if_neg (by decide), if_neg (by decide), if_neg (by decide), if_neg (by decide), if_neg (by decide), if_neg (by decide), if_neg (by decide), if_neg (by decide), if_neg (by decide), if_neg (by decide), if_neg (by decide), if_neg (by decide), if_pos rfl]
  · subst h
    refine c_logLength (X_5 C.X) C.cs (by have := C.oks.2.2.2.1; omega) ?_
    refine ⟨_, _, rfl, rfl, ?_⟩
    refine qI ?_ hQ
    unfold cntA; rw [if_neg (by decide), if_neg (by decide), if_neg (by decide), if_neg (by decide), if_neg (by decide), if_neg (by decide), if_neg (by decide), if_neg (by decide), if_neg (by decide), if_neg (by decide), if_neg (by decide), if_neg (by decide), if_neg (by decide), if_pos rfl]
  · subst h
    refine qI ?_ hQ
    rw [C.hr.2.1]
    unfold cntA; rw [if_neg (by decide), if_neg (by decide), if_neg (by decide), if_neg (by decide), if_neg (by decide), if_neg (by decide), if_neg (by decide), if_neg (by decide), if_neg (by decide), if_neg (by decide), if_neg (by decide), if_neg (by decide), if_neg (by decide), if_neg (by decide), if_pos rfl]
  · refine qI ?_ hQ
    unfold cntA
    rw [if_neg g0, if_neg g1, if_neg g2, if_neg g3, if_neg g4, if_neg g5, if_neg g6, if_neg g7, if_neg g8, if_neg g9, if_neg g10, if_neg g11, if_neg g12, if_neg g13, if_neg g14]
theorem y_count (C : MIv G I J R K n m t c tl tt vl st tp lw sp ap sg B) : YC G (d + 1) mX12_count [.ref m, .int p] I J R K n m t c tl tt (cntA vl st tp lw sp ap sg p) vl st tp lw sp ap sg B := by
  intro Q hQ
  obtain ⟨M1, f1⟩ := C.z0 (y := 0)
  replace hQ := hQ _ M1 f1
  refine zC.of (by decide) (Nat.le_of_ble_eq_true rfl) ?_
  refine wX12_count_0 m t c C.S_ _ ?_
  rintro _ rfl
  refine ⟨fun h => ?_, fun h => ?_, fun h => ?_, fun h => ?_, fun h => ?_, fun h => ?_, fun h => ?_, fun h => ?_, fun h => ?_, fun h => ?_, fun h => ?_, fun h => ?_, fun h => ?_, fun h => ?_, fun h => ?_, fun g0 g1 g2 g3 g4 g5 g6 g7 g8 g9 g10 g11 g12 g13 g14 => ?_⟩
  · subst h
    refine qI ?_ hQ
    rw [M1.v_.1.1]
    unfold cntA; rw [if_pos rfl]
  · subst h
    refine qI ?_ hQ
    rw [M1.v_.2.1]
    unfold cntA; rw [if_neg (by decide), if_pos rfl]
  · subst h
    refine qI ?_ hQ
    rw [M1.lm_.2.1]
    unfold cntA; rw [if_neg (by decide), if_neg (by decide), if_pos rfl]
  · subst h
    refine qI ?_ hQ
    rw [M1.p_.2.1]
    unfold cntA; rw [if_neg (by decide), if_neg (by decide), if_neg (by decide), if_pos rfl]
  · subst h
    refine qI ?_ hQ
    rw [M1.tp_.2.1]
    unfold cntA; rw [if_neg (by decide), if_neg (by decide), if_neg (by decide), if_neg (by decide), if_pos rfl]
  · subst h
    refine qI ?_ hQ
    rw [held_y M1]
    unfold cntA; rw [if_neg (by decide), if_neg (by decide), if_neg (by decide), if_neg (by decide), if_neg (by decide), if_pos rfl]
  · subst h
    refine ⟨(tk_in (n := 49) (by omega) (by omega)).mpr (by omega), qI ?_ hQ⟩
    rw [show (49 : Int32).toNatClampNeg = 49 from rfl, M1.s_.1.1 49 (by omega)]
    unfold cntA; rw [if_neg (by decide), if_neg (by decide), if_neg (by decide), if_neg (by decide), if_neg (by decide), if_neg (by decide), if_pos rfl]
  · subst h
    refine ⟨(tk_in (n := 47) (by omega) (by omega)).mpr (by omega), qI ?_ hQ⟩
    rw [show (47 : Int32).toNatClampNeg = 47 from rfl, M1.s_.1.1 47 (by omega)]
    unfold cntA; rw [if_neg (by decide), if_neg (by decide), if_neg (by decide), if_neg (by decide), if_neg (by decide), if_neg (by decide), if_neg (by decide), if_pos rfl]
  · subst h
    refine ⟨(tk_in (n := 48) (by omega) (by omega)).mpr (by omega), qI ?_ hQ⟩
    rw [show (48 : Int32).toNatClampNeg = 48 from rfl, M1.s_.1.1 48 (by omega)]
    unfold cntA; rw [if_neg (by decide), if_neg (by decide), if_neg (by decide), if_neg (by decide), if_neg (by decide), if_neg (by decide), if_neg (by decide), if_neg (by decide), if_pos rfl]
  · subst h
    refine ⟨(tk_in (n := 45) (by omega) (by omega)).mpr (by omega), qI ?_ hQ⟩
    rw [show (45 : Int32).toNatClampNeg = 45 from rfl, M1.s_.1.1 45 (by omega)]
    unfold cntA; rw [if_neg (by decide), if_neg (by decide), if_neg (by decide), if_neg (by decide), if_neg (by decide), if_neg (by decide), if_neg (by decide), if_neg (by decide), if_neg (by decide), if_pos rfl]
  · subst h
    refine ⟨(tk_in (n := 46) (by omega) (by omega)).mpr (by omega), qI ?_ hQ⟩
    rw [show (46 : Int32).toNatClampNeg = 46 from rfl, M1.s_.1.1 46 (by omega)]
    unfold cntA; rw [if_neg (by decide), if_neg (by decide), if_neg (by decide), if_neg (by decide), if_neg (by decide), if_neg (by decide), if_neg (by decide), if_neg (by decide), if_neg (by decide), if_neg (by decide), if_pos rfl]
  · subst h
    refine qI ?_ hQ
    rw [M1.ap_.1]
    unfold cntA; rw [if_neg (by decide), if_neg (by decide), if_neg (by decide), if_neg (by decide), if_neg (by decide), if_neg (by decide), if_neg (by decide), if_neg (by decide), if_neg (by decide), if_neg (by decide), if_neg (by decide), if_pos rfl]
  · subst h
    refine qI ?_ hQ
    rw [M1.g_.2.1]
    unfold cntA; rw [if_neg (by decide), if_neg (by decide), if_neg (by decide), if_neg (by decide), if_neg (by decide), if_neg (by decide), if_neg (by decide), if_neg (by decide), if_neg (by decide), if_neg (by decide), if_neg (by decide), if_neg (by decide), if_pos rfl]
  · subst h
    refine ⟨(tk_in (n := 50) (by omega) (by omega)).mpr (by omega), qI ?_ hQ⟩
    rw [show (50 : Int32).toNatClampNeg = 50 from rfl, M1.s_.1.2.1]
    unfold cntA; rw [if_neg (by decide), if_neg (by decide), if_neg (by decide), if_neg (by decide), if_neg (by decide), if_neg (by decide), if_neg (by decide), if_neg (by decide), if_neg (by decide), if_neg (by decide), if_neg (by decide), if_neg (by decide), if_neg (by decide), if_pos rfl]
  · subst h
    refine qI ?_ hQ
    rw [M1.s_.2.1]
    unfold cntA; rw [if_neg (by decide), if_neg (by decide), if_neg (by decide), if_neg (by decide), if_neg (by decide), if_neg (by decide), if_neg (by decide), if_neg (by decide), if_neg (by decide), if_neg (by decide), if_neg (by decide), if_neg (by decide), if_neg (by decide), if_neg (by decide), if_pos rfl]
  · refine qI ?_ hQ
    unfold cntA
    rw [if_neg g0, if_neg g1, if_neg g2, if_neg g3, if_neg g4, if_neg g5, if_neg g6, if_neg g7, if_neg g8, if_neg g9, if_neg g10, if_neg g11, if_neg g12, if_neg g13, if_neg g14]
/-- a new number of apples that can be -/
def canApp (ap : Nat) (p : Int32) : Prop := ∃ k : Nat, k ≤ 9 ∧ p = nI k ∧ k ≠ ap
theorem x_apples_y (C : CIv G I R K n x m v w q nx lo M lk sq vl st tp lw sp ap sg B) {k : Nat} (hk : k ≤ 9) (hne : k ≠ ap) : XC G (d + 1) mX11_apples [.ref x, .int (nI k)] I J R K n x m 1 vl st tp lw sp k sg B := by
  intro Q hQ
  have hap := C.ap
  refine zC.of (by decide) (Nat.le_of_ble_eq_true rfl) ?_
  refine wX11_apples_0 x v w q C.X _ ?_
  refine ⟨fun h => absurd h (nI_pos (by omega)), fun _ => ⟨fun h => ?_, fun _ => ⟨fun h => ?_, fun _ => ?_⟩⟩⟩
  · rw [show (9 : Int32) = nI 9 from rfl, tk_lt (by omega) (by omega)] at h
    omega
  · rw [hap.1, tk_eq (by omega) (by omega)] at h
    exact absurd h hne
  · rintro _ rfl
    have g := C.gm
    have vw := C.vw
    have hx : ∀ b, b ≠ x → zU I x 16 (nI k) b = I b := fun b hb => zU_off hb
    have hx1 : ∀ j, j ≠ 16 → zU I x 16 (nI k) x j = I x j := fun j hj => zU_ne (by omega)
    refine hQ _ v w q nx lo M lk sq ⟨C.X, C.vw, C.gm, ?_, ?_, C.okv, ?_, C.oks, ?_, C.hd, ?_, ?_, ?_, ?_, ?_, ⟨zU_self .., hk⟩⟩ (fun b b1 b2 => hx b (by have := g.1; omega))
    · exact C.tp.same (by rw [hx _ (by omega)]) (hx _ (by omega))
    · exact C.cv.same (fun b b1 b2 => hx b (by omega))
    · exact C.cs.same11 (fun k hk => by rw [hx _ (by omega)]) (fun b b1 b2 => hx b (by omega))
    · exact C.hr.same (hx _ (by omega)) (fun j hj hne => hx _ (by omega))
    · exact C.lg.same (fun b b1 b2 => hx b (by omega))
    · exact C.im.same (by rw [hx _ (by omega)]) (fun b b1 b2 => hx b (by omega))
    · obtain ⟨c1, c2, c3, c4⟩ := C.cl
      refine ⟨c1, by rw [hx1 13 (by omega)]; exact c2, fun k hk => ?_, by rw [hx1 15 (by omega)]; exact c4⟩
      rw [hx _ (by have := g.1; have := g.2.2.1 k hk; omega)]
      exact c3 k hk
    · obtain ⟨c1, c2, c3⟩ := C.cp
      refine ⟨c1, by rw [hx1 14 (by omega)]; exact c2, fun k hk => ⟨(c3 k hk).1, (c3 k hk).2.1, (c3 k hk).2.2.same (fun b b1 b2 => hx b (by have := g.1; have := g.2.2.2.1 k hk; omega))⟩⟩
    · exact C.cg.same (fun b b1 b2 => hx b (by omega))
theorem x_apples_n (C : CIv G I R K n x m v w q nx lo M lk sq vl st tp lw sp ap sg B) (hn : ¬ canApp ap p) : XC G (d + 1) mX11_apples [.ref x, .int p] I J R K n x m 0 vl st tp lw sp ap sg B := by
  intro Q hQ
  replace hQ := hQ I v w q nx lo M lk sq C (fun _ _ _ => rfl)
  have hap := C.ap
  refine zC.of (by decide) (Nat.le_of_ble_eq_true rfl) ?_
  refine wX11_apples_0 x v w q C.X _ ?_
  refine ⟨fun _ => hQ, fun h0 => ⟨fun _ => hQ, fun h9 => ⟨fun _ => hQ, fun hne => ?_⟩⟩⟩
  obtain ⟨k, hk, rfl⟩ := nI_of h0
  rw [show (9 : Int32) = nI 9 from rfl, tk_lt (by omega) (by omega)] at h9
  rw [hap.1, tk_eq (by omega) (by omega)] at hne
  exact absurd ⟨k, by omega, rfl, hne⟩ hn
theorem y_apples_y (C : MIv G I J R K n m t c tl tt vl st tp lw sp ap sg B) {k : Nat} (hk : k ≤ 9) (hne : k ≠ ap) : YC G (d + 2) mX12_apples [.ref m, .int (nI k)] I J R K n m t c tl tt 1 vl st tp lw sp k sg B := by
  intro Q hQ
  obtain ⟨M1, f1⟩ := C.z0 (y := 0)
  have hap := M1.ap_
  refine zC.of (by decide) (Nat.le_of_ble_eq_true rfl) ?_
  refine wX12_apples_0 m t c C.S_ _ ?_
  rintro _ rfl
  refine c_isIn32 (a := 0) (z := 9) rfl rfl (fun _ _ => ?_) (fun h => absurd (h (by rw [tk_t (by omega)]; omega) (by rw [tk_t (by omega)]; omega)) id)
  refine ⟨_, _, rfl, rfl, fun h => absurd h (by decide), fun _ => ⟨fun h => ?_, fun _ => ?_⟩⟩
  · rw [hap.1, tk_eq (by omega) (by omega)] at h
    exact absurd h hne
  · rintro _ rfl
    generalize zU I m 0 0 = I1 at M1 f1 ⊢
    have hm1 : ∀ j, j ≠ 35 → zU I1 m 35 (nI k) m j = I1 m j := fun j hj => zU_ne (by omega)
    have hb : ∀ b, b ≠ m → zU I1 m 35 (nI k) b = I1 b := fun b hb => zU_off hb
    refine hQ _ ⟨M1.S_, ?_, M1.okv_, ?_, M1.oks_, ?_, ?_, ?_, ?_, ?_, ⟨zU_self .., hk⟩⟩ (fun b h => by rw [hb b (by omega)]; exact f1 b h)
    · unfold mV VM
      rw [hm1 26 (by omega), hm1 27 (by omega), hb _ (by omega), hb _ (by omega), hb _ (by omega)]
      exact M1.v_
    · unfold mS
      rw [hm1 39 (by omega), hm1 47 (by omega), hb _ (by omega), hb _ (by omega), hb _ (by omega)]
      exact M1.s_
    · unfold mT
      rw [hm1 6 (by omega), hb _ (by omega)]
      exact M1.tp_
    · unfold LMo
      rw [hm1 7 (by omega), hb _ (by omega), hb _ (by omega), hb _ (by omega), hb _ (by omega)]
      exact M1.lm_
    · unfold mHl
      rw [hm1 34 (by omega)]
      exact M1.hl_
    · unfold mP
      rw [hm1 30 (by omega), hb _ (by omega), hb _ (by omega)]
      exact M1.p_
    · unfold mG
      rw [hm1 44 (by omega), hb _ (by omega)]
      exact M1.g_
theorem y_apples_n (C : MIv G I J R K n m t c tl tt vl st tp lw sp ap sg B) (hn : ¬ canApp ap p) : YC G (d + 2) mX12_apples [.ref m, .int p] I J R K n m t c tl tt 0 vl st tp lw sp ap sg B := by
  intro Q hQ
  obtain ⟨M1, f1⟩ := C.z0 (y := 0)
  replace hQ := hQ _ M1 f1
  have hap := M1.ap_
  refine zC.of (by decide) (Nat.le_of_ble_eq_true rfl) ?_
  refine wX12_apples_0 m t c C.S_ _ ?_
  rintro _ rfl
  refine c_isIn32 (a := 0) (z := 9) rfl rfl (fun h0 h9 => ?_) (fun _ => ⟨_, _, rfl, rfl, fun _ => hQ, fun h => absurd rfl h⟩)
  refine ⟨_, _, rfl, rfl, fun h => absurd h (by decide), fun _ => ⟨fun _ => hQ, fun hne => ?_⟩⟩
  obtain ⟨k, hk, rfl, e⟩ := tk_nat h0
  rw [hap.1, tk_eq (by omega) (by omega)] at hne
  exact absurd ⟨k, by omega, rfl, hne⟩ hn
end
