/-! THE FACE: years: the model -/
section
variable {G : zG} {d : Nat} {I : Nat → Nat → Int32} {J : Nat → Nat → Int64} {R : Nat → Nat → Option Nat} {K : Nat → Nat × Nat} {n : Nat} {m t c : Nat} {tl : Nat → Nat} {tt : Nat → Nat → Nat} {vl : Vt} {st : Stt} {tp : Tpt} {lw : Lwt} {sp : Spt} {ap : Nat} {sg : Sgt} {B B' : Nat} {p : Int32} {T T' Z : Nat → Nat} {Q : Option Value → zH → Prop}
theorem LMo.j {J' : Nat → Nat → Int64} {nl : Nat} {cd : Nat → List Int32} (L : LMo I J m nl tl tt cd) (h : J' (m + 15) = J (m + 15)) : LMo I J' m nl tl tt cd := by
  unfold LMo
  rw [h]
  exact L
theorem MIv.j {J' : Nat → Nat → Int64} (C : MIv G I J R K n m t c tl tt vl st tp lw sp ap sg B) (h : J' (m + 15) = J (m + 15)) : MIv G I J' R K n m t c tl tt vl st tp lw sp ap sg B := ⟨C.S_, C.v_, C.okv_, C.s_, C.oks_, C.tp_, C.lm_.j h, C.hl_, C.p_, C.g_, C.ap_⟩
theorem c_mdrawE (S : hMod G R K n m t c) {N : Nat} {s0 : Int64} (hs : J m 40 = s0) (h : 0 < N) (h2 : N < 1000) (hQ : ∀ (s1 : Int64) (y : Nat), s1 = drS s0 → y = drV s1 N → y < N → Q (some (.int (nI y))) (I, zU J m 40 s1, R, K, n)) : zC G (d + 1) mX12_draw 0 0 [.ref m, .int (nI N)] (I, J, R, K, n) Q := by
  subst hs
  exact c_mdraw S h h2 (hQ _ _ rfl rfl (drV_lt h))
theorem y_years_n {s : Int64} (C : MIv G I J R K n m t c tl tt vl st tp lw sp ap sg B) (hp : ¬ (0 < vl.1 ∧ ∃ k : Nat, p = nI k ∧ 1 ≤ k ∧ k ≤ 30 ∧ st.1 49 + k ≤ 999)) : YL G (d + 2) mX12_years [.ref m, .int p, .long s] I J R K n m tl tt (-1) vl st tp lw sp ap sg B := by
  intro Q hQ
  obtain ⟨M1, f1⟩ := C.z0 (y := 0)
  replace hQ := hQ _ J R t c M1 (fun b hb => ⟨f1 b hb, rfl⟩) (fun _ _ => rfl)
  have h9 := C.oks_.2.2.2.1
  have h6 := C.okv_.1.1
  refine zC.of (by decide) (Nat.le_of_ble_eq_true rfl) ?_
  refine wX12_years_0 m t c C.S_ _ _ ?_
  rintro _ rfl
  refine ⟨fun _ => hQ, fun h0 => ?_⟩
  rw [M1.v_.1.1, show (0 : Int32) = nI 0 from rfl, tk_eq (by omega) (by omega)] at h0
  refine c_isIn32 (a := 1) (z := 30) rfl rfl (fun h1 h2 => ?_) (fun _ => ⟨_, _, rfl, rfl, fun _ => hQ, fun h => absurd rfl h⟩)
  obtain ⟨k, hk, rfl, e⟩ := tk_nat (p := p) (by omega)
  refine ⟨_, _, rfl, rfl, fun _ => hQ, fun _ => ⟨(tk_in (n := 49) (by omega) (by omega)).mpr (by omega), fun h3 => ?_, fun _ => hQ⟩⟩
  rw [show (49 : Int32).toNatClampNeg = 49 from rfl, M1.mr 49 (by omega), nI_add, show (999 : Int32) = nI 999 from rfl, tk_le (by omega) (by omega)] at h3
  exact absurd ⟨by omega, k, rfl, by omega, by omega, h3⟩ hp
theorem y_years_y {s : Int64} (C : MIv G I J R K n m t c tl tt vl st tp lw sp ap sg B) (hd : chn (st.1 49) st.2.2.1) (hv : 0 < vl.1) {k : Nat} (k1 : 1 ≤ k) (k30 : k ≤ 30) (hk : st.1 49 + k ≤ 999) (hB : B + 40 < 100000) : YL G (d + 37) mX12_years [.ref m, .int (nI k), .long s] I J R K n m tl tt (nI ((yrsF vl lw ap st s k).1.1 49)) vl (yrsF vl lw ap st s k).1 tp lw sp ap sg (B + 30) := by
  intro Q hQ
  obtain ⟨M1, f1⟩ := C.z0 (y := 0)
  have h6 := C.okv_.1.1
  have h9 := C.oks_.2.2.2.1
  have hin49 : vp_in (49 : Int32) 231 := (tk_in (n := 49) (by omega) (by omega)).mpr (by omega)
  have hin47 : vp_in (47 : Int32) 231 := (tk_in (n := 47) (by omega) (by omega)).mpr (by omega)
  refine zC.of (by decide) (Nat.le_of_ble_eq_true rfl) ?_
  refine wX12_years_0 m t c C.S_ _ _ ?_
  rintro _ rfl
  refine ⟨fun h => ?_, fun _ => ?_⟩
  · rw [M1.v_.1.1, show (0 : Int32) = nI 0 from rfl, tk_eq (by omega) (by omega)] at h
    omega
  refine c_isIn32 (a := 1) (z := 30) rfl rfl (fun _ _ => ?_) (fun h => absurd (h (by rw [tk_t (by omega)]; omega) (by rw [tk_t (by omega)]; omega)) not_false)
  refine ⟨_, _, rfl, rfl, fun h => absurd h (by decide), fun _ => ⟨hin49, ?_⟩⟩
  rw [show (49 : Int32).toNatClampNeg = 49 from rfl, M1.mr 49 (by omega), nI_add, show (999 : Int32) = nI 999 from rfl, tk_le (by omega) (by omega)]
  refine ⟨fun _ => ?_, fun h => absurd hk h⟩
  rintro _ rfl
  have loop : ∀ (j i : Nat) (I' : Nat → Nat → Int32) (J' : Nat → Nat → Int64) (R' : Nat → Nat → Option Nat) (t' c' : Nat) (st' : Stt) (s' : Int64), i + j = k → st'.1 49 = st.1 49 + i → MIv G I' J' R' K n m t' c' tl tt vl st' tp lw sp ap sg (B + i) → chn (st'.1 49) st'.2.2.1 → MF m I I' J J' R R' → J' m 40 = s' → (yrsF vl lw ap st s i).1 = st' → (yrsF vl lw ap st s i).2 = s' → zV G (d + 37) mX12_years 0 0 49 [(0, .ref m), (1, .int (nI k)), (2, .long s), (4, .int (nI i))] [] (I', J', R', K, n) Q := by
    intro j
    induction j with
    | zero =>
      intro i I' J' R' t' c' st' s' hi h49 C' hd' F' hs e es
      refine wX12_years_49 m t' c' C'.S_ _ _ _ ⟨fun _ => ⟨hin49, ?_⟩, fun h => absurd ((tk_le (by omega) (by omega)).mpr (by omega)) h⟩
      rw [show (49 : Int32).toNatClampNeg = 49 from rfl, C'.mr 49 (by omega)]
      rw [show k = i by omega, e] at hQ
      exact hQ I' J' R' t' c' (C'.wide (by omega) (by omega)) F'.1 F'.2
    | succ j ih =>
      intro i I' J' R' t' c' st' s' hi h49 C' hd' F' hs e es
      refine wX12_years_49 m t' c' C'.S_ _ _ _ ⟨fun h => ?_, fun _ => ?_⟩
      · rw [tk_le (by omega) (by omega)] at h
        omega
      refine c_remember C'.S_ C'.s_.1 C'.s_.2.1 C'.s_.2.2.1 C'.s_.2.2.2.1 ?_
      intro I5 a1 a2 a3 a4
      refine ⟨_, rfl, rfl, ?_⟩
      obtain ⟨b1, b2, b3, b4, b5⟩ := C'.rm a3 a4
      obtain ⟨Tq, hTq⟩ : ∃ y, y = quaT vl.1 ap st'.1 s' := ⟨_, rfl⟩
      obtain ⟨sq, hsq⟩ : ∃ y, y = quaS ap s' := ⟨_, rfl⟩
      obtain ⟨s5, hs5⟩ : ∃ y, y = drS sq := ⟨_, rfl⟩
      obtain ⟨p9, hp9e⟩ : ∃ y, y = drV s5 9 := ⟨_, rfl⟩
      obtain ⟨Tf, hTf⟩ : ∃ y, y = forT (aW lw) vl.2.1 Tq p9 := ⟨_, rfl⟩
      obtain ⟨Z, hZ⟩ : ∃ y, y = limeT Tf := ⟨_, rfl⟩
      have hp9 : p9 < 9 := by rw [hp9e]; exact drV_lt (by omega)
      have okq : okT (B + i) vl.1 vl.2.1 Tq := by rw [hTq]; exact C'.oks_.1.qua hv
      have okf : okT (B + i + 1) vl.1 vl.2.1 Tf := by rw [hTf]; exact okq.for_ C.okv_.1 (by omega) hp9
      have hYea : yeaT vl lw ap st'.1 s' = Z := by
        rw [hZ, hTf, hp9e, hs5, hsq, hTq]
        rfl
      have okz : okT (B + i + 1) vl.1 vl.2.1 Z := by rw [← hYea]; exact C'.oks_.1.yea C.okv_.1 (by omega) hv
      have z49 : Z 49 = st'.1 49 := by rw [← hYea]; exact yea49 C'.oks_.1 C.okv_.1 hv
      have d49 : dayT vl.1 vl.2.1 Z 49 = Z 49 + 1 := up_at
      have o47 := okf.2.2.2.2.2.2.1
      have yS : yearS vl lw ap st' s' = (dayT vl.1 vl.2.1 Z, dlog vl.1 vl.2.1 Z st'.2.1, push st'.1 st'.2.2.1, st'.2.2.2) := by
        unfold yearS
        rw [hYea]
      -- from the lime on
      have fin : ∀ (Jd : Nat → Nat → Int64) (If : Nat → Nat → Int32) (Jf : Nat → Nat → Int64) (Rf : Nat → Nat → Option Nat) (tf cf : Nat), Jd m 40 = s5 → (∀ b, b ≠ m → Jd b = J' b) → hMod G Rf K n m tf cf → LMo If Jf m lw.1 tl tt lw.2.1 → FMo (fun q => q = m + 13) m I5 If Jd Jf R' Rf → MR If (m + 13) Tf → (∀ y, 50 ≤ y → If (m + 13) y = I5 (m + 13) y) → ∀ I23, I23 = zU If (m + 13) (47 : Int32).toNatClampNeg (if (If (m + 13) (47 : Int32).toNatClampNeg + 3 : Int32) < 999 then If (m + 13) (47 : Int32).toNatClampNeg + 3 else 999) → zC G (d + 36) mX12_goDay 0 0 [.ref m, .ref (m + 13)] (I23, Jf, Rf, K, n) (fun r h => ∃ (x24 : Int32) (I25 : Nat → Nat → Int32), r = some (.int x24) ∧ h = (I25, Jf, Rf, K, n) ∧ zV G (d + 37) mX12_years 0 0 49 [(0, .ref m), (1, .int (nI k)), (2, .long s), (4, .int (nI i + 1))] [] (I25, Jf, Rf, K, n) Q) := by
        intro Jd If Jf Rf tf cf hsd fjd Sf Lf Ff rf kf I6 e6
        have e8 : (if (If (m + 13) (47 : Int32).toNatClampNeg + 3 : Int32) < 999 then If (m + 13) (47 : Int32).toNatClampNeg + 3 else 999) = nI (min 999 (Tf 47 + 3)) := by
          rw [show (47 : Int32).toNatClampNeg = 47 from rfl, rf 47 (by omega), show (3 : Int32) = nI 3 from rfl, nI_add, show (999 : Int32) = nI 999 from rfl]
          by_cases h : Tf 47 + 3 < 999
          · rw [if_pos ((tk_lt (by omega) (by omega)).mpr h), Nat.min_eq_right (by omega)]
          · rw [if_neg (fun h2 => h ((tk_lt (by omega) (by omega)).mp h2)), Nat.min_eq_left (by omega)]
        rw [e8, show (47 : Int32).toNatClampNeg = 47 from rfl] at e6
        have r6 : MR I6 (m + 13) Z := by
          intro y hy
          rw [hZ]
          unfold limeT
          rw [e6, zU_a]
          by_cases h : y = 47
          · subst h; rw [if_pos rfl, up_at]
          · rw [if_neg h, up_ne h]; exact rf y hy
        have g6 : ∀ q, q ≠ m + 13 → I6 q = If q := fun q hq => by rw [e6, zU_off hq]
        have lr6 : LR (I6 (m + 13)) Z st'.2.1 := b5.same r6 (fun y hy => by rw [e6, zU_a, if_neg (by omega)]; exact kf y hy) z49
        have V6 : VM I6 m vl.1 vl.2.1 := by
          unfold VM
          rw [g6 m (by omega), g6 (m + 7) (by omega), Ff.2.1 26 (by omega), Ff.1 (m + 7) (by omega) (by omega) (by omega) (by omega)]
          exact b3
        refine c_goDay Sf (Mod_26 Sf) (Or.inl rfl) (j := min 60 (Z 49)) (Nat.min_le_left _ _) V6 C.okv_.1 r6 okz lr6.2.1 ?_
        intro I7 j' c1 c2 r7 c3 c4 c5 f7
        refine ⟨_, _, rfl, rfl, ?_⟩
        have F7 : FMo (fun q => q = m + 13) m I5 I7 Jd Jf R' Rf := ⟨fun b h1 h2 h3 h4 => by rw [f7 b h1, g6 b h1]; exact Ff.1 b h1 h2 h3 h4, fun y hy => by rw [f7 m (by omega), g6 m (by omega)]; exact Ff.2.1 y hy, Ff.2.2⟩
        have L7 : LMo I7 Jf m lw.1 tl tt lw.2.1 := Lf.of (Or.inl rfl) (fun q hq => by rw [f7 q hq, g6 q hq])
        obtain ⟨d1, d2, d3⟩ := y_act (C'.j (J' := Jd) (fjd _ (by omega))) a1 a2 a3 a4 Sf L7 F7 (lr6.day r7 ⟨c1, c2, c3, c4, c5⟩) (fun y w hy => by unfold dlog; rw [if_neg (by omega)]) (okz.day C.okv_.1 (by omega)) (by omega) (by omega) hd'
        rw [nI_1]
        refine ih (i + 1) I7 Jf Rf tf cf _ s5 (by omega) ?_ d1 (chn_push (T' := dayT vl.1 vl.2.1 Z) hd' (by omega) (by omega)) (F'.tr ⟨fun b hb => ⟨(d2 b hb).1, by rw [(d2 b hb).2]; exact fjd b (by omega)⟩, d3⟩) ?_ ?_ ?_
        · show dayT vl.1 vl.2.1 Z 49 = _
          omega
        · rw [F7.2.2.1 m (by omega)]
          exact hsd
        · show yearS vl lw ap (yrsF vl lw ap st s i).1 (yrsF vl lw ap st s i).2 = _
          rw [e, es]
          exact yS
        · show drS (quaS ap (yrsF vl lw ap st s i).2) = _
          rw [es, hs5, hsq]
      -- from the second draw on
      have tail : ∀ (Id : Nat → Nat → Int32) (Jd : Nat → Nat → Int64), Jd m 40 = sq → (∀ b, b ≠ m → Jd b = J' b) → MR Id (m + 13) Tq → (∀ y, 50 ≤ y → Id (m + 13) y = I5 (m + 13) y) → (∀ q, q ≠ m + 13 → Id q = I5 q) → zC G (d + 36) mX12_draw 0 0 [.ref m, .int 9] (Id, Jd, R', K, n) (fun r h => ∃ (x16 : Int32) (I17 : Nat → Nat → Int32) (J18 : Nat → Nat → Int64), r = some (.int x16) ∧ h = (I17, J18, R', K, n) ∧ zC G (d + 36) mX12_isOpen 0 0 [.ref (m + 13), .int x16] (I17, J18, R', K, n) (fun r h => ∃ (x19 : Int32) (I20 : Nat → Nat → Int32), r = some (.int x19) ∧ h = (I20, J18, R', K, n) ∧ ((x19 = 0 → ((vp_in 47 231) ∧ (vp_in 47 231 ∧ ∀ I23, I23 = zU I20 (m + 13) (47 : Int32).toNatClampNeg (if (I20 (m + 13) (47 : Int32).toNatClampNeg + 3 : Int32) < 999 then I20 (m + 13) (47 : Int32).toNatClampNeg + 3 else 999) → zC G (d + 36) mX12_goDay 0 0 [.ref m, .ref (m + 13)] (I23, J18, R', K, n) (fun r h => ∃ (x24 : Int32) (I25 : Nat → Nat → Int32), r = some (.int x24) ∧ h = (I25, J18, R', K, n) ∧ zV G (d + 37) mX12_years 0 0 49 [(0, .ref m), (1, .int (nI k)), (2, .long s), (4, .int (nI i + 1))] [] (I25, J18, R', K, n) Q)))) ∧ (¬ (x19 = 0) → zC G (d + 36) mX12_forgives 0 0 [.ref m, .ref (m + 13), .int x16] (I20, J18, R', K, n) (fun r h => ∃ (x26 : Int32) (I27 : Nat → Nat → Int32) (J28 : Nat → Nat → Int64) (R29 : Nat → Nat → Option Nat), r = some (.int x26) ∧ h = (I27, J28, R29, K, n) ∧ ∃ u30 u31 : Nat, hMod G R29 K n m u30 u31 ∧ ((vp_in 47 231) ∧ (vp_in 47 231 ∧ ∀ I34, I34 = zU I27 (m + 13) (47 : Int32).toNatClampNeg (if (I27 (m + 13) (47 : Int32).toNatClampNeg + 3 : Int32) < 999 then I27 (m + 13) (47 : Int32).toNatClampNeg + 3 else 999) → zC G (d + 36) mX12_goDay 0 0 [.ref m, .ref (m + 13)] (I34, J28, R29, K, n) (fun r h => ∃ (x35 : Int32) (I36 : Nat → Nat → Int32), r = some (.int x35) ∧ h = (I36, J28, R29, K, n) ∧ zV G (d + 37) mX12_years 0 0 49 [(0, .ref m), (1, .int (nI k)), (2, .long s), (4, .int (nI i + 1))] [] (I36, J28, R29, K, n) Q)))))))) := by
        intro Id Jd hsd fjd rd kd gd
        refine c_mdrawE C'.S_ (N := 9) hsd (by omega) (by omega) ?_
        intro s1 y es1 ey hy
        obtain rfl : s1 = s5 := by rw [es1, hs5]
        obtain rfl : y = p9 := by rw [ey, hp9e]
        refine ⟨_, _, _, rfl, rfl, ?_⟩
        have Ld : LMo Id (zU Jd m 40 s1) m lw.1 tl tt lw.2.1 := (b1.of (Or.inl rfl) gd).j (by rw [zU_off (by omega)]; exact fjd _ (by omega))
        have Fd : FMo (fun q => q = m + 13) m I5 Id (zU Jd m 40 s1) (zU Jd m 40 s1) R' R' := FMo.of (by omega) gd
        have hj2 : ∀ b, b ≠ m → zU Jd m 40 s1 b = J' b := fun b hb => by rw [zU_off hb]; exact fjd b hb
        by_cases ho : 0 < Tq (3 * y + 2)
        · have eTf : Tf = pardonT (aW lw) vl.2.1 Tq y := by rw [hTf]; exact if_pos ho
          rw [eTf] at fin
          refine c_mo_y (Mod_26 C'.S_) rd okq hp9 ho ?_
          refine ⟨_, _, rfl, rfl, ?_⟩
          refine ⟨fun h => absurd h (by decide), fun _ => ?_⟩
          have Hd : HLD Id m lw.1 lw.2.1 (aW lw) := b2.same (by rw [gd m (by omega)])
          have Vd : VM Id m vl.1 vl.2.1 := by
            unfold VM
            rw [gd m (by omega), gd (m + 7) (by omega)]
            exact b3
          refine c_forgives C'.S_ (Mod_26 C'.S_) (Or.inl rfl) Ld Hd Vd C.okv_.1 rd okq hp9 ho ?_
          intro I2 J2 R2 t2 c2 S2 L2 F2 r2 k2
          exact ⟨_, _, _, _, rfl, rfl, _, _, S2, hin47, hin47, fin _ I2 J2 R2 t2 c2 (zU_self ..) hj2 S2 L2 (Fd.tr F2) r2 (fun y hy => by rw [k2 y hy]; exact kd y hy)⟩
        · have eTf : Tf = Tq := by rw [hTf]; exact if_neg ho
          rw [eTf] at fin
          refine c_mo_n (Mod_26 C'.S_) rd (p := nI y) (Or.inr ⟨_, hp9, rfl, by omega⟩) ?_
          refine ⟨_, _, rfl, rfl, ?_⟩
          exact ⟨fun _ => ⟨hin47, hin47, fin _ Id _ R' t' c' (zU_self ..) hj2 C'.S_ Ld Fd rd kd⟩, fun h => absurd rfl h⟩
      have hap := C'.ap_
      have e35 : I5 m 35 = nI ap := by rw [a3 35 (by omega)]; exact hap.1
      have e26 : I5 m 26 = nI vl.1 := b3.1
      refine c_mdrawE C'.S_ (N := 10) hs (by omega) (by omega) ?_
      intro s1 y1 es1 ey1 hy1
      refine ⟨_, _, _, rfl, rfl, ?_⟩
      rw [e35, tk_le (by omega) (by omega), e26]
      refine ⟨fun h => ?_, fun h => ?_⟩
      · have hq : Tq = st'.1 := by
          rw [hTq]
          unfold quaT
          rw [← es1, ← ey1]
          exact if_neg (fun h2 => absurd h2.1 (by omega))
        have hqs : sq = s1 := by
          rw [hsq]
          unfold quaS
          rw [← es1, ← ey1]
          exact if_neg (by omega)
        refine tail I5 _ ?_ ?_ ?_ ?_ ?_
        · rw [zU_self, hqs]
        · exact fun b hb => zU_off hb
        · rw [hq]; exact b4
        · exact fun _ _ => rfl
        · exact fun _ _ => rfl
      · refine c_mdrawE C'.S_ (N := vl.1) (zU_self ..) hv (by omega) ?_
        intro s2 y2 es2 ey2 hy2
        refine ⟨_, _, _, rfl, rfl, ?_⟩
        rw [e26]
        refine c_mdrawE C'.S_ (N := vl.1) (zU_self ..) hv (by omega) ?_
        intro s3 y3 es3 ey3 hy3
        refine ⟨_, _, _, rfl, rfl, ?_⟩
        refine c_mdrawE C'.S_ (N := 9) (zU_self ..) (by omega) (by omega) ?_
        intro s4 y4 es4 ey4 hy4
        refine ⟨_, _, _, rfl, rfl, ?_⟩
        have hqs : sq = s4 := by
          rw [hsq]
          unfold quaS
          rw [← es1, ← ey1, ← es2, ← es3, ← es4]
          exact if_pos (by omega)
        have hqt : Tq = if y1 < ap ∧ y2 ≠ y3 ∧ freeA st'.1 9 0 < 9 then sinT st'.1 (freeA st'.1 9 0) y2 y3 (y4 + 1) else st'.1 := by
          rw [hTq]
          unfold quaT
          rw [← es1, ← ey1, ← es2, ← ey2, ← es3, ← ey3, ← es4, ← ey4]
        have hJ : ∀ (b : Nat), b ≠ m → zU (zU (zU (zU J' m 40 s1) m 40 s2) m 40 s3) m 40 s4 b = J' b := fun b hb => by rw [zU_off hb, zU_off hb, zU_off hb, zU_off hb]
        rw [tk_eq (by omega) (by omega), nI_1 y4]
        refine ⟨fun he => ?_, fun he => ?_⟩
        · refine tail I5 _ ?_ hJ ?_ ?_ ?_
          · rw [zU_self, hqs]
          · rw [hqt, if_neg (fun h2 => h2.2.1 he)]; exact b4
          · exact fun _ _ => rfl
          · exact fun _ _ => rfl
        · refine c_freePlace (Mod_26 C'.S_) b4 C'.oks_.1 ?_
          refine ⟨_, _, rfl, rfl, ?_⟩
          have fl := freeA_le st'.1 9 0
          have e9 : ((9 : Int32) ≤ nI (freeA st'.1 9 0)) ↔ 9 ≤ freeA st'.1 9 0 := tk_le (a := 9) (by omega) (by omega)
          refine ⟨fun h9 => ?_, fun h9 => ?_⟩
          · refine tail I5 _ ?_ hJ ?_ ?_ ?_
            · rw [zU_self, hqs]
            · rw [hqt, if_neg (fun h2 => absurd h2.2.2 (by have := e9.mp h9; omega))]; exact b4
            · exact fun _ _ => rfl
            · exact fun _ _ => rfl
          · have hf9 : freeA st'.1 9 0 < 9 := by
              have : ¬ 9 ≤ freeA st'.1 9 0 := fun h2 => h9 (e9.mpr h2)
              omega
            refine c_sins (Mod_26 C'.S_) b4 C'.oks_.1 hf9 ?_
            intro I8 r8 k8 g8
            refine ⟨_, rfl, rfl, ?_⟩
            refine tail I8 _ ?_ hJ ?_ k8 g8
            · rw [zU_self, hqs]
            · rw [hqt, if_pos ⟨by omega, he, hf9⟩]; exact r8
  exact loop k 0 _ _ R t c st s (by omega) (by omega) (M1.j (zU_off (by omega))) hd ⟨fun b hb => ⟨f1 b hb, zU_off (by omega)⟩, fun _ _ => rfl⟩ (zU_self ..) rfl rfl
end
