/-! THE FACE: buy, give, day, undo -/
section
variable {G : zG} {d : Nat} {I : Nat → Nat → Int32} {J : Nat → Nat → Int64} {R : Nat → Nat → Option Nat} {K : Nat → Nat × Nat} {n : Nat} {x m v w q nx lo M t c : Nat} {lk sq : Nat → Nat} {tl : Nat → Nat} {tt : Nat → Nat → Nat} {vl : Vt} {st : Stt} {tp : Tpt} {lw : Lwt} {sp : Spt} {ap : Nat} {sg : Sgt} {B B' : Nat} {p p2 p3 : Int32} {T T' T0 : Nat → Nat} {hs : List (Nat → Nat)} {LG LG' : Nat → Nat → Nat} {im : Option ((Nat → Nat) × (Nat → Nat → Nat))} {Q : Option Value → zH → Prop}
theorem c_hasV_y (C : CIv G I R K n x m v w q nx lo M lk sq vl st tp lw sp ap sg B) (h : 0 < vl.1) (hQ : Q (some (.int 1)) (I, J, R, K, n)) : zC G (d + 1) mX11_hasVillage 0 0 [.ref x] (I, J, R, K, n) Q := by
  have h6 := C.okv.1.1
  refine zC.of (by decide) (Nat.le_of_ble_eq_true rfl) ?_
  refine wX11_hasVillage_0 x v w q C.X ?_
  rw [C.cv.1.1, if_neg (by rw [show (0 : Int32) = nI 0 from rfl, tk_le (by omega) (by omega)]; omega)]
  exact hQ
theorem c_hasV_n (C : CIv G I R K n x m v w q nx lo M lk sq vl st tp lw sp ap sg B) (h : ¬ 0 < vl.1) (hQ : Q (some (.int 0)) (I, J, R, K, n)) : zC G (d + 1) mX11_hasVillage 0 0 [.ref x] (I, J, R, K, n) Q := by
  refine zC.of (by decide) (Nat.le_of_ble_eq_true rfl) ?_
  refine wX11_hasVillage_0 x v w q C.X ?_
  rw [C.cv.1.1, show vl.1 = 0 by omega, if_pos (by decide)]
  exact hQ
/-- lime that can be bought -/
def canBuy (nf : Nat) (T : Nat → Nat) (p : Int32) : Prop := 0 < nf ∧ ∃ k : Nat, p = nI k ∧ 1 ≤ k ∧ k ≤ 20 ∧ k ≤ T 48 ∧ T 47 + k ≤ 999
def buyT (T : Nat → Nat) (k : Nat) : Nat → Nat := up (up T 47 (T 47 + k)) 48 (T 48 - k)
def canGive (nf : Nat) (T : Nat → Nat) (p : Int32) : Prop := 0 < nf ∧ ∃ k : Nat, p = nI k ∧ 1 ≤ k ∧ k ≤ 50 ∧ T 48 + k ≤ 999
theorem okT.buy {nf : Nat} {Y : Nat → Nat} (O : okT B nf Y T) (W : okV nf Y) {k : Nat} (h : T 47 + k ≤ 999) : okT B nf Y (buyT T k) := (O.up47 W h).up48 W (by have := O.2.2.2.2; omega)
theorem x_buy_y (C : CIv G I R K n x m v w q nx lo M lk sq vl st tp lw sp ap sg B) {k : Nat} (hv : 0 < vl.1) (k1 : 1 ≤ k) (k20 : k ≤ 20) (kc : k ≤ st.1 48) (kl : st.1 47 + k ≤ 999) : XC G (d + 3) mX11_buy [.ref x, .int (nI k)] I J R K n x m (nI (st.1 47 + k)) vl (actS st (buyT st.1 k)) tp lw sp ap sg B := by
  intro Q hQ
  have g := C.gm
  have o := C.oks.1.2.2.2.2
  refine zC.of (by decide) (Nat.le_of_ble_eq_true rfl) ?_
  refine wX11_buy_0 x v w q C.X _ ?_
  refine c_hasV_y C hv ?_
  refine ⟨_, _, rfl, rfl, ?_⟩
  rw [C.cs.2.2.2.2.1, C.cs.2.2.2.2.2.1, show (1 : Int32) = nI 1 from rfl, show (20 : Int32) = nI 20 from rfl, show (999 : Int32) = nI 999 from rfl, nI_add, tk_lt (by omega) (by omega), tk_lt (by omega) (by omega), tk_lt (by omega) (by omega), tk_le (by omega) (by omega)]
  refine ⟨fun h => absurd h (by decide), fun _ => ⟨fun h => absurd h (by omega), fun _ => ⟨fun h => absurd h (by omega), fun _ => ⟨fun h => absurd h (by omega), fun _ => ⟨fun _ => ?_, fun h => absurd kl h⟩⟩⟩⟩⟩
  refine x_prep C ?_
  intro I1 C1 kr f1
  refine ⟨_, rfl, rfl, ?_⟩
  intro I2 e2
  rw [C1.cs.2.2.2.2.1, nI_add] at e2
  have c2 := C1.cs.f47 (x := st.1 47 + k)
  rw [← e2] at c2
  intro I3 e3
  rw [c2.2.2.2.2.2.1, up_ne (by omega), tk_sub kc] at e3
  have c3 := c2.f48 (x := st.1 48 - k)
  rw [← e3] at c3
  have e8 : I3 (x + 12) 8 = nI (st.1 47 + k) := by rw [c3.2.2.2.2.1, up_ne (by omega), up_at]
  rw [e8]
  have F : Fr (aSt (x + 12)) R (x + 3) I1 I3 := by rw [e3, e2]; exact (Fr.rf.put ⟨by omega, by omega⟩).put ⟨by omega, by omega⟩
  refine x_act0 (T' := buyT st.1 k) (by omega) C1 kr c3 F (by unfold buyT; rw [up_ne (by omega), up_ne (by omega)]) (C.oks.1.buy C.okv.1 kl) (Nat.le_refl _) ?_
  intro I' nx' M' d1 d2
  exact ⟨_, _, rfl, rfl, hQ I' v w q nx' lo M' lk sq d1 (fun b b1 b2 => by rw [d2 b b1 b2]; exact f1 b (by have := g.1; have := C.hr.2.2.1; omega))⟩
theorem x_buy_n (C : CIv G I R K n x m v w q nx lo M lk sq vl st tp lw sp ap sg B) (hn : ¬ canBuy vl.1 st.1 p) : XC G (d + 3) mX11_buy [.ref x, .int p] I J R K n x m (-1) vl st tp lw sp ap sg B := by
  intro Q hQ
  replace hQ := hQ I v w q nx lo M lk sq C (fun _ _ _ => rfl)
  have o := C.oks.1.2.2.2.2
  refine zC.of (by decide) (Nat.le_of_ble_eq_true rfl) ?_
  refine wX11_buy_0 x v w q C.X _ ?_
  by_cases hv : 0 < vl.1
  · refine c_hasV_y C hv ?_
    refine ⟨_, _, rfl, rfl, ?_⟩
    refine ⟨fun h => absurd h (by decide), fun _ => ⟨fun _ => hQ, fun h1 => ⟨fun _ => hQ, fun h20 => ⟨fun _ => hQ, fun hc => ⟨fun hl => ?_, fun _ => hQ⟩⟩⟩⟩⟩
    obtain ⟨k, k1, k20, rfl⟩ := tk_small (N := 20) (by decide) h1 (by rw [Int32.lt_iff_toInt_lt] at h20; rw [Int32.le_iff_toInt_le]; have : (20 : Int32).toInt = (nI 20).toInt := rfl; omega)
    rw [C.cs.2.2.2.2.2.1, tk_lt (by omega) (by omega)] at hc
    rw [C.cs.2.2.2.2.1, nI_add, show (999 : Int32) = nI 999 from rfl, tk_le (by omega) (by omega)] at hl
    exact absurd ⟨hv, k, rfl, k1, k20, by omega, hl⟩ hn
  · refine c_hasV_n C hv ?_
    refine ⟨_, _, rfl, rfl, ?_⟩
    exact ⟨fun _ => hQ, fun h => absurd rfl h⟩
theorem y_buy_y (C : MIv G I J R K n m t c tl tt vl st tp lw sp ap sg B) (hd : chn (st.1 49) st.2.2.1) {k : Nat} (hv : 0 < vl.1) (k1 : 1 ≤ k) (k20 : k ≤ 20) (kc : k ≤ st.1 48) (kl : st.1 47 + k ≤ 999) : YC G (d + 2) mX12_buy [.ref m, .int (nI k)] I J R K n m t c tl tt (nI (st.1 47 + k)) vl (actS st (buyT st.1 k)) tp lw sp ap sg B := by
  intro Q hQ
  have h6 := C.okv_.1.1
  have o := C.oks_.1.2.2.2.2
  obtain ⟨M1, f1⟩ := C.z0 (y := 0)
  have i48 : vp_in (48 : Int32) 231 := (tk_in (n := 48) (by omega) (by omega)).mpr (by omega)
  have i47 : vp_in (47 : Int32) 231 := (tk_in (n := 47) (by omega) (by omega)).mpr (by omega)
  refine zC.of (by decide) (Nat.le_of_ble_eq_true rfl) ?_
  refine wX12_buy_0 m t c C.S_ _ ?_
  rintro _ rfl
  rw [M1.v_.1.1, show (0 : Int32) = nI 0 from rfl, tk_eq (by omega) (by omega), show (48 : Int32).toNatClampNeg = 48 from rfl, show (47 : Int32).toNatClampNeg = 47 from rfl, show nI 0 = 0 from rfl]
  refine ⟨fun h => absurd h (by omega), fun _ => ?_⟩
  refine c_isIn32 (a := 1) (z := 20) rfl rfl (fun _ _ => ?_) (fun h => absurd (h (by rw [tk_t (by omega)]; omega) (by rw [tk_t (by omega)]; omega)) id)
  refine ⟨_, _, rfl, rfl, fun h => absurd h (by decide), fun _ => ⟨i48, ?_⟩⟩
  rw [M1.mr 48 (by omega), M1.mr 47 (by omega), nI_add, show (999 : Int32) = nI 999 from rfl, tk_lt (by omega) (by omega), tk_le (by omega) (by omega)]
  refine ⟨fun h => absurd h (by omega), fun _ => ⟨i47, fun _ => ?_, fun h => absurd kl h⟩⟩
  refine c_remember M1.S_ M1.s_.1 M1.s_.2.1 M1.s_.2.2.1 M1.s_.2.2.2.1 ?_
  intro I5 a1 a2 a3 a4
  refine ⟨_, rfl, rfl, i48, i48, ?_⟩
  obtain ⟨b1, b2, b3, b4, b5⟩ := M1.rm a3 a4
  intro I6 e6
  rw [b4 48 (by omega), tk_sub kc] at e6
  have r6 := b4.put (k := 48) (x := st.1 48 - k)
  rw [← e6] at r6
  refine ⟨i47, i47, ?_⟩
  intro I7 e7
  rw [r6 47 (by omega), up_ne (by omega), nI_add] at e7
  have r7 := r6.put (k := 47) (x := st.1 47 + k)
  rw [← e7] at r7
  have r8 : MR I7 (m + 13) (buyT st.1 k) := r7.row (fun j _ => by
    unfold buyT
    by_cases h8 : j = 48
    · subst h8; rw [up_at, up_ne (by omega), up_at]
    · rw [up_ne h8]
      by_cases h7 : j = 47
      · subst h7; rw [up_at, up_at]
      · rw [up_ne h7, up_ne h7, up_ne h8])
  have f' : ∀ b, b ≠ m + 13 → I7 b = I5 b := fun b hb => by rw [e7, zU_off hb, e6, zU_off hb]
  have e49 : buyT st.1 k 49 = st.1 49 := by unfold buyT; rw [up_ne (by omega), up_ne (by omega)]
  obtain ⟨e1, e2, e3⟩ := y_act M1 a1 a2 a3 a4 M1.S_ (b1.of (Or.inl rfl) f') (FMo.of (by omega) f') (b5.same r8 (fun j hj => by rw [e7, zU_ne (by omega), e6, zU_ne (by omega)]) e49) (fun _ _ _ => rfl) (M1.oks_.1.buy M1.okv_.1 kl) (Nat.le_refl _) (by rw [e49]; exact M1.oks_.2.2.2.1) hd
  rw [r7 47 (by omega), up_at]
  exact ⟨i47, hQ I7 e1 (fun b hb => by rw [(e2 b hb).1]; exact f1 b hb)⟩
theorem y_buy_n (C : MIv G I J R K n m t c tl tt vl st tp lw sp ap sg B) (hn : ¬ canBuy vl.1 st.1 p) : YC G (d + 2) mX12_buy [.ref m, .int p] I J R K n m t c tl tt (-1) vl st tp lw sp ap sg B := by
  intro Q hQ
  have h6 := C.okv_.1.1
  have o := C.oks_.1.2.2.2.2
  obtain ⟨M1, f1⟩ := C.z0 (y := 0)
  replace hQ := hQ _ M1 f1
  have i48 : vp_in (48 : Int32) 231 := (tk_in (n := 48) (by omega) (by omega)).mpr (by omega)
  have i47 : vp_in (47 : Int32) 231 := (tk_in (n := 47) (by omega) (by omega)).mpr (by omega)
  refine zC.of (by decide) (Nat.le_of_ble_eq_true rfl) ?_
  refine wX12_buy_0 m t c C.S_ _ ?_
  rintro _ rfl
  refine ⟨fun _ => hQ, fun h0 => ?_⟩
  rw [M1.v_.1.1, show (0 : Int32) = nI 0 from rfl, tk_eq (by omega) (by omega)] at h0
  refine c_isIn32 (a := 1) (z := 20) rfl rfl (fun g1 g2 => ?_) (fun _ => ⟨_, _, rfl, rfl, fun _ => hQ, fun h => absurd rfl h⟩)
  obtain ⟨k, hk, rfl, e⟩ := tk_nat (p := p) (by omega)
  refine ⟨_, _, rfl, rfl, fun h => absurd h (by decide), fun _ => ⟨i48, fun _ => hQ, fun h1 => ⟨i47, fun h2 => ?_, fun _ => hQ⟩⟩⟩
  rw [show (48 : Int32).toNatClampNeg = 48 from rfl, M1.mr 48 (by omega), tk_lt (by omega) (by omega)] at h1
  rw [show (47 : Int32).toNatClampNeg = 47 from rfl, M1.mr 47 (by omega), nI_add, show (999 : Int32) = nI 999 from rfl, tk_le (by omega) (by omega)] at h2
  exact absurd ⟨by omega, k, rfl, by omega, by omega, by omega, h2⟩ hn
-- give
theorem x_give_y (C : CIv G I R K n x m v w q nx lo M lk sq vl st tp lw sp ap sg B) {k : Nat} (hv : 0 < vl.1) (k1 : 1 ≤ k) (k50 : k ≤ 50) (kl : st.1 48 + k ≤ 999) : XC G (d + 3) mX11_give [.ref x, .int (nI k)] I J R K n x m (nI (st.1 48 + k)) vl (actS st (up st.1 48 (st.1 48 + k))) tp lw sp ap sg B := by
  intro Q hQ
  have g := C.gm
  have o := C.oks.1.2.2.2.2
  refine zC.of (by decide) (Nat.le_of_ble_eq_true rfl) ?_
  refine wX11_give_0 x v w q C.X _ ?_
  refine c_hasV_y C hv ?_
  refine ⟨_, _, rfl, rfl, ?_⟩
  rw [C.cs.2.2.2.2.2.1, show (1 : Int32) = nI 1 from rfl, show (50 : Int32) = nI 50 from rfl, show (999 : Int32) = nI 999 from rfl, nI_add, tk_lt (by omega) (by omega), tk_lt (by omega) (by omega), tk_le (by omega) (by omega)]
  refine ⟨fun h => absurd h (by decide), fun _ => ⟨fun h => absurd h (by omega), fun _ => ⟨fun h => absurd h (by omega), fun _ => ⟨fun _ => ?_, fun h => absurd kl h⟩⟩⟩⟩
  refine x_prep C ?_
  intro I1 C1 kr f1
  refine ⟨_, rfl, rfl, ?_⟩
  intro I2 e2
  rw [C1.cs.2.2.2.2.2.1, nI_add] at e2
  have c2 := C1.cs.f48 (x := st.1 48 + k)
  rw [← e2] at c2
  have e8 : I2 (x + 12) 9 = nI (st.1 48 + k) := by rw [c2.2.2.2.2.2.1, up_at]
  rw [e8]
  have F : Fr (aSt (x + 12)) R (x + 3) I1 I2 := by rw [e2]; exact Fr.rf.put ⟨by omega, by omega⟩
  refine x_act0 (by omega) C1 kr c2 F (up_ne (by omega)) (C.oks.1.up48 C.okv.1 kl) (Nat.le_refl _) ?_
  intro I' nx' M' d1 d2
  exact ⟨_, _, rfl, rfl, hQ I' v w q nx' lo M' lk sq d1 (fun b b1 b2 => by rw [d2 b b1 b2]; exact f1 b (by have := g.1; have := C.hr.2.2.1; omega))⟩
theorem x_give_n (C : CIv G I R K n x m v w q nx lo M lk sq vl st tp lw sp ap sg B) (hn : ¬ canGive vl.1 st.1 p) : XC G (d + 3) mX11_give [.ref x, .int p] I J R K n x m (-1) vl st tp lw sp ap sg B := by
  intro Q hQ
  replace hQ := hQ I v w q nx lo M lk sq C (fun _ _ _ => rfl)
  have o := C.oks.1.2.2.2.2
  refine zC.of (by decide) (Nat.le_of_ble_eq_true rfl) ?_
  refine wX11_give_0 x v w q C.X _ ?_
  by_cases hv : 0 < vl.1
  · refine c_hasV_y C hv ?_
    refine ⟨_, _, rfl, rfl, ?_⟩
    refine ⟨fun h => absurd h (by decide), fun _ => ⟨fun _ => hQ, fun h1 => ⟨fun _ => hQ, fun h20 => ⟨fun hl => ?_, fun _ => hQ⟩⟩⟩⟩
    obtain ⟨k, k1, k20, rfl⟩ := tk_small (N := 50) (by decide) h1 (by rw [Int32.lt_iff_toInt_lt] at h20; rw [Int32.le_iff_toInt_le]; have : (50 : Int32).toInt = (nI 50).toInt := rfl; omega)
    rw [C.cs.2.2.2.2.2.1, nI_add, show (999 : Int32) = nI 999 from rfl, tk_le (by omega) (by omega)] at hl
    exact absurd ⟨hv, k, rfl, k1, k20, hl⟩ hn
  · refine c_hasV_n C hv ?_
    refine ⟨_, _, rfl, rfl, ?_⟩
    exact ⟨fun _ => hQ, fun h => absurd rfl h⟩
theorem y_give_y (C : MIv G I J R K n m t c tl tt vl st tp lw sp ap sg B) (hd : chn (st.1 49) st.2.2.1) {k : Nat} (hv : 0 < vl.1) (k1 : 1 ≤ k) (k50 : k ≤ 50) (kl : st.1 48 + k ≤ 999) : YC G (d + 2) mX12_give [.ref m, .int (nI k)] I J R K n m t c tl tt (nI (st.1 48 + k)) vl (actS st (up st.1 48 (st.1 48 + k))) tp lw sp ap sg B := by
  intro Q hQ
  have h6 := C.okv_.1.1
  have o := C.oks_.1.2.2.2.2
  obtain ⟨M1, f1⟩ := C.z0 (y := 0)
  have i48 : vp_in (48 : Int32) 231 := (tk_in (n := 48) (by omega) (by omega)).mpr (by omega)
  refine zC.of (by decide) (Nat.le_of_ble_eq_true rfl) ?_
  refine wX12_give_0 m t c C.S_ _ ?_
  rintro _ rfl
  rw [M1.v_.1.1, show (0 : Int32) = nI 0 from rfl, tk_eq (by omega) (by omega), show (48 : Int32).toNatClampNeg = 48 from rfl, show nI 0 = 0 from rfl]
  refine ⟨fun h => absurd h (by omega), fun _ => ?_⟩
  refine c_isIn32 (a := 1) (z := 50) rfl rfl (fun _ _ => ?_) (fun h => absurd (h (by rw [tk_t (by omega)]; omega) (by rw [tk_t (by omega)]; omega)) id)
  refine ⟨_, _, rfl, rfl, fun h => absurd h (by decide), fun _ => ⟨i48, ?_⟩⟩
  rw [M1.mr 48 (by omega), nI_add, show (999 : Int32) = nI 999 from rfl, tk_le (by omega) (by omega)]
  refine ⟨fun _ => ?_, fun h => absurd kl h⟩
  refine c_remember M1.S_ M1.s_.1 M1.s_.2.1 M1.s_.2.2.1 M1.s_.2.2.2.1 ?_
  intro I5 a1 a2 a3 a4
  refine ⟨_, rfl, rfl, i48, i48, ?_⟩
  obtain ⟨b1, b2, b3, b4, b5⟩ := M1.rm a3 a4
  intro I7 e7
  rw [b4 48 (by omega), nI_add] at e7
  have r7 := b4.put (k := 48) (x := st.1 48 + k)
  rw [← e7] at r7
  have f' : ∀ b, b ≠ m + 13 → I7 b = I5 b := fun b hb => by rw [e7, zU_off hb]
  have e49 : up st.1 48 (st.1 48 + k) 49 = st.1 49 := up_ne (by omega)
  obtain ⟨e1, e2, e3⟩ := y_act M1 a1 a2 a3 a4 M1.S_ (b1.of (Or.inl rfl) f') (FMo.of (by omega) f') (b5.same r7 (fun j hj => by rw [e7, zU_ne (by omega)]) e49) (fun _ _ _ => rfl) (M1.oks_.1.up48 M1.okv_.1 kl) (Nat.le_refl _) (by rw [e49]; exact M1.oks_.2.2.2.1) hd
  rw [r7 48 (by omega), up_at]
  exact ⟨i48, hQ I7 e1 (fun b hb => by rw [(e2 b hb).1]; exact f1 b hb)⟩
theorem y_give_n (C : MIv G I J R K n m t c tl tt vl st tp lw sp ap sg B) (hn : ¬ canGive vl.1 st.1 p) : YC G (d + 2) mX12_give [.ref m, .int p] I J R K n m t c tl tt (-1) vl st tp lw sp ap sg B := by
  intro Q hQ
  have h6 := C.okv_.1.1
  have o := C.oks_.1.2.2.2.2
  obtain ⟨M1, f1⟩ := C.z0 (y := 0)
  replace hQ := hQ _ M1 f1
  have i48 : vp_in (48 : Int32) 231 := (tk_in (n := 48) (by omega) (by omega)).mpr (by omega)
  refine zC.of (by decide) (Nat.le_of_ble_eq_true rfl) ?_
  refine wX12_give_0 m t c C.S_ _ ?_
  rintro _ rfl
  refine ⟨fun _ => hQ, fun h0 => ?_⟩
  rw [M1.v_.1.1, show (0 : Int32) = nI 0 from rfl, tk_eq (by omega) (by omega)] at h0
  refine c_isIn32 (a := 1) (z := 50) rfl rfl (fun g1 g2 => ?_) (fun _ => ⟨_, _, rfl, rfl, fun _ => hQ, fun h => absurd rfl h⟩)
  obtain ⟨k, hk, rfl, e⟩ := tk_nat (p := p) (by omega)
  refine ⟨_, _, rfl, rfl, fun h => absurd h (by decide), fun _ => ⟨i48, fun h2 => ?_, fun _ => hQ⟩⟩
  rw [show (48 : Int32).toNatClampNeg = 48 from rfl, M1.mr 48 (by omega), nI_add, show (999 : Int32) = nI 999 from rfl, tk_le (by omega) (by omega)] at h2
  exact absurd ⟨by omega, k, rfl, by omega, by omega, h2⟩ hn
-- day
/-- the state behind a day -/
def dayS (vl : Vt) (st : Stt) : Stt := (dayT vl.1 vl.2.1 st.1, dlog vl.1 vl.2.1 st.1 st.2.1, push st.1 st.2.2.1, st.2.2.2)
theorem whitesA_day {nf : Nat} {Y : Nat → Nat} (h6 : nf ≤ 6) : whitesA nf Y (dayT nf Y T) = whitesA nf Y (wornT nf T) := by
  unfold whitesA
  refine bitsA_congr (fun f hf => ?_)
  unfold bareA dayT
  rw [up_ne (by omega), up_ne (by omega), up_ne (by omega), up_ne (by omega)]
/-- the log of the class with a day more -/
theorem CLg.day {I' : Nat → Nat → Int32} {g nf : Nat} {Y : Nat → Nat} (L : CLg I g (T 49) lo M LG) (hM : T 49 ≤ M) (h1 : ∀ w y, w < 3 → I' (g + 44 + w) y = if y = T 49 % 100 then nI (entA nf Y T w) else I (g + 44 + w) y) : CLg I' g (T 49 + 1) lo (max M (T 49 + 1)) (dlog nf Y T LG) := by
  intro e w hw e1 e2 e3
  rw [h1 w _ hw]
  unfold dlog
  by_cases he : e = T 49
  · subst he; rw [if_pos rfl, if_pos rfl]
  · rw [if_neg (by omega), if_neg he]
    exact L e w hw e1 (by omega) (by omega)
/-- wear and write, behind prepare -/
theorem x_dayw (C : CIv G I R K n x m v w q nx lo M lk sq vl st tp lw sp ap sg B) (h9 : st.1 49 < 999) (kr : KR (I (x + 30 + nx)) st.1) (hQ : ∀ I', CHr I' (x + 28) st.2.2.1 nx → KR (I' (x + 30 + nx)) st.1 → CS I' (x + 12) (dayT vl.1 vl.2.1 st.1) → VL I' v vl.1 vl.2.1 → CLg I' (x + 28) (dayT vl.1 vl.2.1 st.1 49) lo (max M (dayT vl.1 vl.2.1 st.1 49)) (dlog vl.1 vl.2.1 st.1 st.2.1) → (∀ b k, ¬ scr x w q nx lk lw.1 b k → ¬ (x + 12 ≤ b ∧ b < x + 19) → ¬ (x + 72 ≤ b ∧ b < x + 75) → I' b k = I b k) → Q none (I', J, R, K, n)) :
    zC G (d + 4) mX8_wear 0 0 [.ref (x + 12)] (I, J, R, K, n) (fun r h => ∃ (I6 : Nat → Nat → Int32), r = none ∧ h = (I6, J, R, K, n) ∧ zC G (d + 4) mX1_write 0 0 [.ref (x + 28), .ref (x + 12)] (I6, J, R, K, n) (fun r h => ∃ (I7 : Nat → Nat → Int32), r = none ∧ h = (I7, J, R, K, n) ∧ Q none (I7, J, R, K, n))) := by
  have hnx := C.hr.2.2.1
  have vw := C.vw
  have h6 := C.okv.1.1
  have hM := C.hd.2.2.2.1
  have e49 : dayT vl.1 vl.2.1 st.1 49 = st.1 49 + 1 := up_at
  refine c_wear (X_5 C.X) C.g1 C.cv.1 C.okv.1 C.cs C.oks.1 C.lwh ?_
  intro I6 cs c11 F6
  refine ⟨_, rfl, rfl, ?_⟩
  have low : ∀ b, ¬ aSt (x + 12) b → b ≠ x + 11 → b < x + 111 → I6 b = I b := fun b h1 h2 h3 => F6.low C.lwh h1 h2 h3
  have V6 : VL I6 v vl.1 vl.2.1 := F6.vl C.lwh C.cv.1 (fun b hb => by unfold aSt at hb; omega) (by omega) (by omega)
  have O6 := C.oks.1.day C.okv.1 (by omega)
  refine c_write (X_9 C.X) (X_5 C.X) (by omega) (by omega) V6 C.okv.1 cs O6 (by omega) c11 ?_
  intro I7 w0 w1 w2 f7
  rw [e49, Nat.add_sub_cancel] at w0 w1 w2
  have l47 : dayT vl.1 vl.2.1 st.1 47 = st.1 47 := by unfold dayT wornT; rw [up_ne (by omega), up_ne (by omega), up_ne (by omega), wearF_ne _ _ (by omega)]
  rw [l47] at w2
  rw [whitesA_day h6] at w0
  refine ⟨_, rfl, rfl, hQ I7 ?_ ?_ ?_ ?_ ?_ ?_⟩
  · exact C.hr.same (by rw [f7 _ (by omega) (by omega) (by omega)]; exact low _ (by unfold aSt; omega) (by omega) (by omega)) (fun j hj _ => by rw [f7 _ (by omega) (by omega) (by omega)]; exact low _ (by unfold aSt; omega) (by omega) (by omega))
  · rw [f7 _ (by omega) (by omega) (by omega), low _ (by unfold aSt; omega) (by omega) (by omega)]
    exact kr
  · exact cs.same (fun b b1 b2 => f7 b (by omega) (by omega) (by omega))
  · unfold VL
    rw [f7 v (by omega) (by omega) (by omega), f7 (v + 1) (by omega) (by omega) (by omega), f7 (v + 2) (by omega) (by omega) (by omega)]
    exact V6
  · rw [e49]
    refine C.lg.day hM (fun w y hw => ?_)
    have hl : ∀ b, x + 72 ≤ b → b < x + 75 → I6 b = I b := fun b b1 b2 => low b (by unfold aSt; omega) (by omega) (by omega)
    obtain rfl | rfl | rfl : w = 0 ∨ w = 1 ∨ w = 2 := by omega
    · rw [← hl _ (by omega) (by omega)]; exact w0 y
    · rw [← hl _ (by omega) (by omega)]; exact w1 y
    · rw [← hl _ (by omega) (by omega)]; exact w2 y
  · intro b k hb h12 h72
    rw [f7 b (by omega) (by omega) (by omega)]
    exact C.fr F6 (fun h => h12 (by unfold aSt at h; omega)) hb
theorem x_day_n (C : CIv G I R K n x m v w q nx lo M lk sq vl st tp lw sp ap sg B) (hn : ¬ (0 < vl.1 ∧ st.1 49 < 999)) : XC G (d + 2) mX11_day [.ref x] I J R K n x m (-1) vl st tp lw sp ap sg B := by
  intro Q hQ
  replace hQ := hQ I v w q nx lo M lk sq C (fun _ _ _ => rfl)
  have o := C.oks.1.2.2.2.2
  refine zC.of (by decide) (Nat.le_of_ble_eq_true rfl) ?_
  refine wX11_day_0 x v w q C.X ?_
  by_cases hv : 0 < vl.1
  · refine c_hasV_y C hv ?_
    refine ⟨_, _, rfl, rfl, ?_⟩
    refine ⟨fun h => absurd h (by decide), fun _ => ⟨fun h => ?_, fun _ => hQ⟩⟩
    rw [C.cs.2.2.2.2.2.2, show (999 : Int32) = nI 999 from rfl, tk_lt (by omega) (by omega)] at h
    exact absurd ⟨hv, h⟩ hn
  · refine c_hasV_n C hv ?_
    refine ⟨_, _, rfl, rfl, ?_⟩
    exact ⟨fun _ => hQ, fun h => absurd rfl h⟩
theorem x_day_y (C : CIv G I R K n x m v w q nx lo M lk sq vl st tp lw sp ap sg B) (hv : 0 < vl.1) (h9 : st.1 49 < 999) : XC G (d + 5) mX11_day [.ref x] I J R K n x m (nI (popA (whitesA vl.1 vl.2.1 (wornT vl.1 st.1)))) vl (dayS vl st) tp lw sp ap sg B := by
  intro Q hQ
  have g := C.gm
  have o := C.oks.1.2.2.2.2
  have h6 := C.okv.1.1
  have e49 : dayT vl.1 vl.2.1 st.1 49 = st.1 49 + 1 := up_at
  have O6 := C.oks.1.day C.okv.1 (by omega)
  refine zC.of (by decide) (Nat.le_of_ble_eq_true rfl) ?_
  refine wX11_day_0 x v w q C.X ?_
  refine c_hasV_y C hv ?_
  refine ⟨_, _, rfl, rfl, ?_⟩
  rw [C.cs.2.2.2.2.2.2, show (999 : Int32) = nI 999 from rfl, tk_lt (by omega) (by omega)]
  refine ⟨fun h => absurd h (by decide), fun _ => ⟨fun _ => ?_, fun h => absurd h9 h⟩⟩
  refine x_prep C ?_
  intro I1 C1 kr f1
  refine ⟨_, rfl, rfl, ?_⟩
  refine zC.mono (x_dayw (Q := fun r h => r = none → ∃ I7, h = (I7, J, R, K, n) ∧ zC G (d + 4) mX8_whites 0 0 [.ref (x + 12)] (I7, J, R, K, n) (fun r h => ∃ (x8 : Int32) (I9 : Nat → Nat → Int32), r = some (.int x8) ∧ h = (I9, J, R, K, n) ∧ zC G (d + 4) mJ6_bitCount_0f7a4 0 0 [.int (x8)] (I9, J, R, K, n) (fun r h => ∃ (x10 : Int32), r = some (.int x10) ∧ h = (I9, J, R, K, n) ∧ zC G (d + 4) mX11_acted 0 0 [.ref (x), .int (x10)] (I9, J, R, K, n) (fun r h => ∃ (x11 : Int32) (I12 : Nat → Nat → Int32), r = some (.int x11) ∧ h = (I12, J, R, K, n) ∧ Q (some (.int (x11))) (I12, J, R, K, n))))) C1 h9 kr ?_) ?_
  · intro I7 hr kr7 cs7 V7 lg7 f7 _
    refine ⟨I7, rfl, ?_⟩
    refine c_whites (X_5 C.X) V7 C.okv.1 cs7 O6 ?_
    refine ⟨_, _, rfl, rfl, ?_⟩
    rw [whitesA_day h6]
    have hw : whitesA vl.1 vl.2.1 (wornT vl.1 st.1) < 512 := Nat.lt_of_lt_of_le (bits_6 _ (by omega)) (by decide)
    have hp := popA_le (whitesA vl.1 vl.2.1 (wornT vl.1 st.1))
    refine c_bitCount hw ?_
    refine ⟨_, rfl, rfl, ?_⟩
    refine x_acted (by omega) C1 hr kr7 cs7 (by omega) (by omega) lg7 (C.oks.push O6 (Nat.le_refl _) (by omega)) f7 ?_
    intro I' nx' M' d1 d2
    exact ⟨_, _, rfl, rfl, hQ I' v w q nx' lo M' lk sq d1 (fun b b1 b2 => by rw [d2 b b1 b2]; exact f1 b (by have := g.1; have := C.hr.2.2.1; omega))⟩
  · rintro _ _ ⟨I6, rfl, rfl, h⟩
    refine ⟨I6, rfl, rfl, zC.mono h ?_⟩
    rintro _ _ ⟨I7, rfl, rfl, h⟩
    obtain ⟨I8, e, h⟩ := h rfl
    cases e
    exact ⟨I7, rfl, rfl, h⟩
theorem y_day_n (C : MIv G I J R K n m t c tl tt vl st tp lw sp ap sg B) (hn : ¬ (0 < vl.1 ∧ st.1 49 < 999)) : YC G (d + 1) mX12_day [.ref m] I J R K n m t c tl tt (-1) vl st tp lw sp ap sg B := by
  intro Q hQ
  have h6 := C.okv_.1.1
  have h9 := C.oks_.2.2.2.1
  obtain ⟨M1, f1⟩ := C.z0 (y := 0)
  replace hQ := hQ _ M1 f1
  refine zC.of (by decide) (Nat.le_of_ble_eq_true rfl) ?_
  refine wX12_day_0 m t c C.S_ ?_
  rintro _ rfl
  refine ⟨fun _ => hQ, fun h0 => ⟨(tk_in (n := 49) (by omega) (by omega)).mpr (by omega), fun _ => hQ, fun h1 => ?_⟩⟩
  rw [M1.v_.1.1, show (0 : Int32) = nI 0 from rfl, tk_eq (by omega) (by omega)] at h0
  rw [show (49 : Int32).toNatClampNeg = 49 from rfl, M1.mr 49 (by omega), show (999 : Int32) = nI 999 from rfl, tk_eq (by omega) (by omega)] at h1
  exact absurd ⟨by omega, by omega⟩ hn
theorem y_day_y (C : MIv G I J R K n m t c tl tt vl st tp lw sp ap sg B) (hd : chn (st.1 49) st.2.2.1) (hv : 0 < vl.1) (h9 : st.1 49 < 999) : YC G (d + 5) mX12_day [.ref m] I J R K n m t c tl tt (nI (popA (whitesA vl.1 vl.2.1 (wornT vl.1 st.1)))) vl (dayS vl st) tp lw sp ap sg B := by
  intro Q hQ
  have h6 := C.okv_.1.1
  obtain ⟨M1, f1⟩ := C.z0 (y := 0)
  have e49 : dayT vl.1 vl.2.1 st.1 49 = st.1 49 + 1 := up_at
  refine zC.of (by decide) (Nat.le_of_ble_eq_true rfl) ?_
  refine wX12_day_0 m t c C.S_ ?_
  rintro _ rfl
  rw [M1.v_.1.1, show (49 : Int32).toNatClampNeg = 49 from rfl, M1.mr 49 (by omega), show (999 : Int32) = nI 999 from rfl, tk_eq (by omega) (by omega)]
  refine ⟨fun h => ?_, fun _ => ⟨(tk_in (n := 49) (by omega) (by omega)).mpr (by omega), fun h => absurd h (by omega), fun _ => ?_⟩⟩
  · rw [show (0 : Int32) = nI 0 from rfl, tk_eq (by omega) (by omega)] at h
    omega
  refine c_remember M1.S_ M1.s_.1 M1.s_.2.1 M1.s_.2.2.1 M1.s_.2.2.2.1 ?_
  intro I5 a1 a2 a3 a4
  refine ⟨_, rfl, rfl, ?_⟩
  obtain ⟨b1, b2, b3, b4, b5⟩ := M1.rm a3 a4
  refine c_goDay M1.S_ (Mod_26 M1.S_) (Or.inl rfl) (j := min 60 (st.1 49)) (by omega) b3 M1.okv_.1 b4 M1.oks_.1 b5.2.1 ?_
  intro I7 j' c1 c2 r' c3 c4 c5 f'
  refine ⟨_, _, rfl, rfl, ?_⟩
  obtain ⟨e1, e2, e3⟩ := y_act M1 a1 a2 a3 a4 M1.S_ (b1.of (Or.inl rfl) f') (FMo.of (by omega) f') (b5.day r' ⟨c1, c2, c3, c4, c5⟩) (fun y w hy => by unfold dlog; rw [if_neg (by omega)]) (M1.oks_.1.day M1.okv_.1 (by omega)) (Nat.le_refl _) (by omega) hd
  exact hQ I7 e1 (fun b hb => by rw [(e2 b hb).1]; exact f1 b hb)
-- undo
theorem x_undo_n (C : CIv G I R K n x m v w q nx lo M lk sq vl (T, LG, [], im) tp lw sp ap sg B) : XC G (d + 3) mX11_undo [.ref x] I J R K n x m (-1) vl (T, LG, [], im) tp lw sp ap sg B := by
  intro Q hQ
  replace hQ := hQ I v w q nx lo M lk sq C (fun _ _ _ => rfl)
  refine zC.of (by decide) (Nat.le_of_ble_eq_true rfl) ?_
  refine wX11_undo_0 x v w q C.X ?_
  refine c_takeBack_n (X_9 C.X) (X_5 C.X) C.hr ?_
  refine ⟨_, _, rfl, rfl, ?_⟩
  rw [if_pos rfl]
  exact hQ
theorem okSt.pop (O : okSt vl (T, LG, T0 :: hs, im) B) : okSt vl (T0, LG, hs, im) B := by
  obtain ⟨o1, o2, o3, o4, o5, o6⟩ := O
  refine ⟨o2 0 (by simp), fun j hj => ?_, o3, o5 0 (by simp), fun j hj => ?_, o6⟩
  · have := o2 (j + 1) (by simp at hj ⊢; omega)
    simp only [nth_s] at this
    exact this
  · have := o5 (j + 1) (by simp at hj ⊢; omega)
    simp only [nth_s] at this
    exact this
theorem x_undo_y (C : CIv G I R K n x m v w q nx lo M lk sq vl (T, LG, T0 :: hs, im) tp lw sp ap sg B) : XC G (d + 3) mX11_undo [.ref x] I J R K n x m (nI hs.length) vl (T0, LG, hs, im) tp lw sp ap sg B := by
  intro Q hQ
  have g := C.gm
  have vw := C.vw
  have hl : ∀ j, j < lw.1 → x + 112 ≤ lk j := fun j hj => by have := g.1; have := g.2.2.1 j hj; omega
  have hq : x + 108 ≤ q := by have := g.1; have := g.2.2.2.2.1; omega
  refine zC.of (by decide) (Nat.le_of_ble_eq_true rfl) ?_
  refine wX11_undo_0 x v w q C.X ?_
  refine c_takeBack (X_9 C.X) (X_5 C.X) C.hr (by omega) ?_
  intro I' nx' a1 a2 a3 a4
  refine ⟨_, _, rfl, rfl, ?_⟩
  rw [if_neg (by decide), a1.2.1]
  refine hQ I' v w q nx' lo M lk sq (C.acts (st' := (T0, LG, hs, im)) (fun b k hb h12 h28 => ?_) a2 C.oks.pop a1 C.hd.pop ?_ ?_) (fun b b1 b2 => ?_)
  · rw [a3 b (by omega) (by unfold aSt; omega)]
  · intro e w hw e1 e2 e3
    rw [a3 _ (by omega) (by unfold aSt; omega)]
    refine C.lg e w hw e1 ?_ e3
    have h : T0 49 ≤ T 49 := C.hd.1.1
    exact Nat.lt_of_lt_of_le e2 h
  · refine C.im.same (a4 4 (by omega) (by omega)) (fun b b1 b2 => a3 b (by omega) (by unfold aSt; omega))
  · exact a3 b (by have := g.1; omega) (by have := g.1; unfold aSt; omega)
theorem y_undo_n (C : MIv G I J R K n m t c tl tt vl (T, LG, [], im) tp lw sp ap sg B) : YC G (d + 1) mX12_undo [.ref m] I J R K n m t c tl tt (-1) vl (T, LG, [], im) tp lw sp ap sg B := by
  intro Q hQ
  obtain ⟨M1, f1⟩ := C.z0 (y := 0)
  refine zC.of (by decide) (Nat.le_of_ble_eq_true rfl) ?_
  refine wX12_undo_0 m t c C.S_ ?_
  rintro _ rfl
  have e := M1.s_.2.1
  rw [show nI ([] : List (Nat → Nat)).length = 0 from rfl] at e
  rw [e]
  exact ⟨fun _ => hQ _ M1 f1, fun h => absurd rfl h⟩
theorem y_undo_y (C : MIv G I J R K n m t c tl tt vl (T, LG, T0 :: hs, im) tp lw sp ap sg B) : YC G (d + 1) mX12_undo [.ref m] I J R K n m t c tl tt (nI hs.length) vl (T0, LG, hs, im) tp lw sp ap sg B := by
  intro Q hQ
  obtain ⟨M1, f1⟩ := C.z0 (y := 0)
  have hl := M1.s_.2.2.1
  simp only [List.length_cons] at hl
  refine zC.of (by decide) (Nat.le_of_ble_eq_true rfl) ?_
  refine wX12_undo_0 m t c C.S_ ?_
  rintro _ rfl
  generalize zU I m 0 0 = I1 at M1 f1 ⊢
  have e39 : I1 m 39 = nI (hs.length + 1) := M1.s_.2.1
  rw [e39]
  refine ⟨fun h => ?_, fun _ => ?_⟩
  · rw [show (0 : Int32) = nI 0 from rfl, tk_eq (by omega) (by omega)] at h
    omega
  rw [nI_pred]
  intro I3 e3
  have g39 : I3 m 39 = nI hs.length := by rw [e3, zU_self]
  have f3 : ∀ b, b ≠ m → I3 b = I1 b := fun b hb => by rw [e3, zU_off hb]
  have m3 : ∀ k, k ≠ 39 → I3 m k = I1 m k := fun k hk => by rw [e3, zU_ne (by omega)]
  have loop : ∀ (j k : Nat) (I4 : Nat → Nat → Int32), k + j = 231 → (∀ y, y < k → I4 (m + 13) y = I1 (m + 17) (231 * hs.length + y)) → (∀ b, b ≠ m + 13 → I4 b = I3 b) → zV G (d + 1) mX12_undo 0 0 26 [(0, .ref m), (1, .int (nI k))] [] (I4, J, R, K, n) Q := by
    intro j
    induction j with
    | zero =>
      intro k I4 hk r4 f4
      obtain rfl : k = 231 := by omega
      refine wX12_undo_26 m t c M1.S_ _ ⟨fun _ => ?_, fun h => absurd (by decide) h⟩
      rw [f4 m (by omega), g39]
      have lr0 : LR (I4 (m + 13)) T0 LG := by
        have h := M1.s_.2.2.2.1 0 (by simp)
        simp only [List.length_cons, nth_0] at h
        refine h.congr (fun y hy => ?_)
        rw [r4 y hy]
        congr 1
      refine hQ I4 (M1.acts (st' := (T0, LG, hs, im)) M1.S_ (fun b k h1 h2 h3 h4 h5 => ?_) ?_ ⟨lr0, ?_, ?_, fun j hj => ?_, ?_⟩ M1.oks_.pop) (fun b hb => ?_)
      · rw [f4 b h3]
        by_cases e : b = m
        · subst e; exact m3 k (by omega)
        · rw [f3 b e]
      · unfold LMo
        rw [f4 m (by omega), m3 7 (by omega), f4 (m + 3) (by omega), f3 (m + 3) (by omega), f4 (m + 2) (by omega), f3 (m + 2) (by omega), f4 (m + 4) (by omega), f3 (m + 4) (by omega), f4 (m + 16) (by omega), f3 (m + 16) (by omega)]
        exact M1.lm_
      · rw [f4 m (by omega)]; exact g39
      · simp only; omega
      · have h := M1.s_.2.2.2.1 (j + 1) (by simp at hj ⊢; omega)
        simp only [List.length_cons, nth_s] at h hj ⊢
        refine h.congr (fun y hy => ?_)
        rw [f4 _ (by omega), f3 _ (by omega)]
        congr 1
        have : hs.length - 1 - j = hs.length + 1 - 1 - (j + 1) := by omega
        rw [this]
      · have h := M1.s_.2.2.2.2
        simp only at h ⊢
        rw [f4 m (by omega), m3 47 (by omega), f4 _ (by omega), f3 _ (by omega)]
        exact h
      · rw [f4 b (by omega), f3 b (by omega)]
        exact f1 b hb
    | succ j ih =>
      intro k I4 hk r4 f4
      refine wX12_undo_26 m t c M1.S_ _ ⟨fun h => ?_, fun _ => ?_⟩
      · rw [show (231 : Int32) = nI 231 from rfl, tk_le (by omega) (by omega)] at h
        omega
      · rw [f4 m (by omega), g39, show (231 : Int32) = nI 231 from rfl, pk_mul, nI_add, tk_c (by omega), tk_c (by omega), nI_1, f4 _ (by omega), f3 _ (by omega)]
        refine ⟨(tk_in (by omega) (by omega)).mpr (by omega), (tk_in (by omega) (by omega)).mpr (by omega), ?_⟩
        intro I6 e6
        refine ih (k + 1) I6 (by omega) (fun y hy => ?_) (fun b hb => by rw [e6, zU_off hb]; exact f4 b hb)
        rw [e6, zU_a]
        by_cases e : y = k
        · subst e; rw [if_pos rfl]
        · rw [if_neg e]; exact r4 y (by omega)
  exact loop 231 0 I3 (by omega) (fun y hy => absurd hy (by omega)) (fun _ _ => rfl)
end
