/-! THE FACE: text: the model -/
theorem sb_nar : ∀ b : Nat, b < 256 → vp_nar .byte (sb b) = sb b := by decide +kernel
section
variable {G : zG} {d : Nat} {I : Nat → Nat → Int32} {J : Nat → Nat → Int64} {R : Nat → Nat → Option Nat} {K : Nat → Nat × Nat} {n : Nat} {m t c : Nat} {tl : Nat → Nat} {tt : Nat → Nat → Nat} {vl vl' : Vt} {st : Stt} {tp : Tpt} {lw : Lwt} {sp : Spt} {ap : Nat} {sg : Sgt} {B : Nat} {p : Int32} {Q : Option Value → zH → Prop}
theorem y_text_b (C : MIv G I J R K n m t c tl tt vl st tp lw sp ap sg B) (hp : bad 3 p) : YL G (d + 2) mX12_text [.ref m, .int p] I J R K n m tl tt (-1) vl st tp lw sp ap sg B := by
  intro Q hQ
  obtain ⟨M1, f1⟩ := C.z0 (y := 0)
  replace hQ := hQ _ J R t c M1 (fun b hb => ⟨f1 b hb, rfl⟩) (fun _ _ => rfl)
  refine zC.of (by decide) (Nat.le_of_ble_eq_true rfl) ?_
  refine wX12_text_0 m t c C.S_ _ ?_
  rintro _ rfl
  refine c_in_n (N := 3) (by decide) (by decide) hp ?_
  refine ⟨_, _, rfl, rfl, ?_⟩
  exact ⟨fun _ => hQ, fun h => absurd rfl h⟩
theorem y_text_r {k : Nat} (C : MIv G I J R K n m t c tl tt vl st tp lw sp ap sg B) (hk : k < 3) (h : (k = 1 ∧ lw.1 = 4) ∨ (k = 2 ∧ sp.1 = 4)) : YL G (d + 2) mX12_text [.ref m, .int (nI k)] I J R K n m tl tt (-1) vl st tp lw sp ap sg B := by
  intro Q hQ
  obtain ⟨M1, f1⟩ := C.z0 (y := 0)
  replace hQ := hQ _ J R t c M1 (fun b hb => ⟨f1 b hb, rfl⟩) (fun _ _ => rfl)
  refine zC.of (by decide) (Nat.le_of_ble_eq_true rfl) ?_
  refine wX12_text_0 m t c C.S_ _ ?_
  rintro _ rfl
  refine c_in_y (N := 3) (by decide) (by decide) hk ?_
  refine ⟨_, _, rfl, rfl, ?_⟩
  refine ⟨fun h => absurd h (by decide), fun _ => ?_⟩
  rcases h with ⟨rfl, h⟩ | ⟨rfl, h⟩
  · refine ⟨fun _ => ⟨fun _ => hQ, fun h2 => absurd ?_ h2⟩, fun h => absurd rfl h⟩
    rw [M1.lm_.2.1, h]
    rfl
  · refine ⟨fun h => absurd h (by decide), fun _ => ⟨fun _ => ⟨fun _ => hQ, fun h2 => absurd ?_ h2⟩, fun h => absurd rfl h⟩⟩
    rw [M1.p_.2.1, h]
    rfl
theorem y_text0_n (C : MIv G I J R K n m t c tl tt vl st tp lw sp ap sg B) (hv : (villP tp.2 tp.1).2 = none) : YL G (d + 10) mX12_text [.ref m, .int (nI 0)] I J R K n m tl tt (-1) vl st tp lw sp ap sg B := by
  intro Q hQ
  obtain ⟨M1, f1⟩ := C.z0 (y := 0)
  have l := villP_ok (tx := tp.2) (ln := tp.1)
  have t1 := C.tp_.1
  refine zC.of (by decide) (Nat.le_of_ble_eq_true rfl) ?_
  refine wX12_text_0 m t c C.S_ _ ?_
  rintro _ rfl
  refine c_in_y (N := 3) (by decide) (by decide) (by omega) ?_
  refine ⟨_, _, rfl, rfl, ?_⟩
  refine ⟨fun h => absurd h (by decide), fun _ => ⟨fun h => absurd h (by decide), fun _ => ⟨fun h => absurd h (by decide), fun _ => ?_⟩⟩⟩
  refine c_mfault0 M1 (fun I' R' vl2 rl h => ?_) (fun I' R' _ F S' hR => ?_)
  · rw [hv] at h; injection h
  · exact ⟨_, _, _, _, rfl, rfl, _, _, S', fun h => absurd ((tk_m1 (by omega)).mp h) id, fun _ => hQ I' J R' (m + 1) 240 (M1.red S' F) (fun b hb => ⟨by rw [F.out b hb]; exact f1 b hb, rfl⟩) hR⟩
theorem y_text1_n (C : MIv G I J R K n m t c tl tt vl st tp lw sp ap sg B) (hl : lw.1 ≠ 4) (hv : (plaw tp.2 tp.1).2 = none) (hq : (plaw tp.2 tp.1).1 < 1000) : YL G (d + 34) mX12_text [.ref m, .int (nI 1)] I J R K n m tl tt (-1) vl st tp lw sp ap sg B := by
  intro Q hQ
  obtain ⟨M1, f1⟩ := C.z0 (y := 0)
  have l4 := C.lm_.1
  refine zC.of (by decide) (Nat.le_of_ble_eq_true rfl) ?_
  refine wX12_text_0 m t c C.S_ _ ?_
  rintro _ rfl
  refine c_in_y (N := 3) (by decide) (by decide) (by omega) ?_
  refine ⟨_, _, rfl, rfl, ?_⟩
  refine ⟨fun h => absurd h (by decide), fun _ => ⟨fun _ => ⟨fun h => ?_, fun _ => ⟨fun h => absurd h (by decide), fun _ => ?_⟩⟩, fun h => absurd rfl h⟩⟩
  · rw [M1.lm_.2.1] at h
    exact absurd ((tk_eq (b := 4) (by omega) (by omega)).mp h) hl
  refine c_mfault1 M1 (fun I' R' cc h => ?_) (fun I' R' _ F S' hR => ?_)
  · rw [hv] at h; injection h
  · exact ⟨_, _, _, _, rfl, rfl, _, _, S', fun h => absurd ((tk_m1 (by omega)).mp h) id, fun _ => hQ I' J R' (m + 1) 240 (M1.red S' F) (fun b hb => ⟨by rw [F.out b hb]; exact f1 b hb, rfl⟩) hR⟩
theorem y_text2_n (C : MIv G I J R K n m t c tl tt vl st tp lw sp ap sg B) (hl : sp.1 ≠ 4) (hv : (spR tp).2 = none) : YL G (d + 10) mX12_text [.ref m, .int (nI 2)] I J R K n m tl tt (-1) vl st tp lw sp ap sg B := by
  intro Q hQ
  obtain ⟨M1, f1⟩ := C.z0 (y := 0)
  have l4 := C.p_.1
  have l : (spR tp).1 ≤ tp.1 := spP_le (by omega)
  have t1 := C.tp_.1
  refine zC.of (by decide) (Nat.le_of_ble_eq_true rfl) ?_
  refine wX12_text_0 m t c C.S_ _ ?_
  rintro _ rfl
  refine c_in_y (N := 3) (by decide) (by decide) (by omega) ?_
  refine ⟨_, _, rfl, rfl, ?_⟩
  refine ⟨fun h => absurd h (by decide), fun _ => ⟨fun h => absurd h (by decide), fun _ => ⟨fun _ => ⟨fun h => ?_, fun _ => ?_⟩, fun h => absurd rfl h⟩⟩⟩
  · rw [M1.p_.2.1] at h
    exact absurd ((tk_eq (b := 4) (by omega) (by omega)).mp h) hl
  refine c_mfault2 M1 (fun I' R' z h => ?_) (fun I' R' _ F S' hR => ?_)
  · rw [hv] at h; injection h
  · exact ⟨_, _, _, _, rfl, rfl, _, _, S', fun h => absurd ((tk_m1 (by omega)).mp h) id, fun _ => hQ I' J R' (m + 1) 240 (M1.red S' F) (fun b hb => ⟨by rw [F.out b hb]; exact f1 b hb, rfl⟩) hR⟩
theorem MIv.tp0 (C : MIv G I J R K n m t c tl tt vl st tp lw sp ap sg B) : MIv G (zU I m 6 0) J R K n m t c tl tt vl st (0, tp.2) lw sp ap sg B := C.tape (fun b j h1 h2 => zU_ne h1) ⟨Nat.zero_le _, zU_self .., fun j hj => absurd hj (Nat.not_lt_zero j)⟩
theorem y_text1_y {cc : List Int32} (C : MIv G I J R K n m t c tl tt vl st tp lw sp ap sg B) (hl : lw.1 ≠ 4) (hv : (plaw tp.2 tp.1).2 = some cc) : YL G (d + 34) mX12_text [.ref m, .int (nI 1)] I J R K n m (fun k => if k = lw.1 then tp.1 else tl k) (fun k => if k = lw.1 then tp.2 else tt k) (nI lw.1) vl st (0, tp.2) (lwK lw cc) sp ap sg B := by
  intro Q hQ
  obtain ⟨M1, f1⟩ := C.z0 (y := 0)
  have l4 := C.lm_.1
  have t1 := C.tp_.1
  refine zC.of (by decide) (Nat.le_of_ble_eq_true rfl) ?_
  refine wX12_text_0 m t c C.S_ _ ?_
  rintro _ rfl
  refine c_in_y (N := 3) (by decide) (by decide) (by omega) ?_
  refine ⟨_, _, rfl, rfl, ?_⟩
  refine ⟨fun h => absurd h (by decide), fun _ => ⟨fun _ => ⟨fun h => ?_, fun _ => ⟨fun h => absurd h (by decide), fun _ => ?_⟩⟩, fun h => absurd rfl h⟩⟩
  · rw [M1.lm_.2.1] at h
    exact absurd ((tk_eq (b := 4) (by omega) (by omega)).mp h) hl
  refine c_mfault1 M1 (fun I' R' cc2 h F S' hR => ?_) (fun I' R' h => ?_)
  case refine_2 => rw [hv] at h; injection h
  obtain rfl : cc = cc2 := by rw [hv] at h; injection h
  have M2 := M1.red S' F
  have V2 := M2.tp_
  refine ⟨_, _, _, _, rfl, rfl, _, _, S', fun _ => ?_, fun h => absurd rfl h⟩
  intro I3 q3
  rw [V2.2.1]
  have M3 := M2.tp0
  rw [← q3] at M3
  refine ⟨fun _ => ?_, fun h => absurd rfl h⟩
  have tape3 : ∀ k, k < tp.1 → I3 (m + 1) k = sb (tp.2 k) ∧ 1 ≤ tp.2 k ∧ tp.2 k < 256 := fun k hk => by rw [q3, zU_off (by omega)]; exact V2.2.2 k hk
  have loop : ∀ (j i : Nat) (A : Nat → Nat → Int32), i + j = tp.1 → (∀ b k, ¬ (b = m + 2 ∧ 240 * lw.1 ≤ k) → A b k = I3 b k) → (∀ k, k < i → A (m + 2) (240 * lw.1 + k) = sb (tp.2 k)) → zV G (d + 34) mX12_text 0 0 71 [(0, .ref m), (1, .int (nI 1)), (2, .int (nI tp.1)), (3, .int (nI i))] [] (A, J, R', K, n) Q := by
    intro j
    induction j with
    | zero =>
      intro i A hi fA hA
      obtain rfl : i = tp.1 := by omega
      have e7 : A m 7 = nI lw.1 := by rw [fA m 7 (by omega)]; exact M3.lm_.2.1
      refine wX12_text_71 m (m + 1) 240 S' _ _ _ ⟨fun _ => ?_, fun h => absurd ((tk_le (by omega) (by omega)).mpr (Nat.le_refl _)) h⟩
      rw [e7]
      refine ⟨(tk_in (by omega) (by omega)).mpr (by omega), fun A2 q2 A3 q4 => ?_⟩
      rw [tk_c (by omega)] at q2
      rw [show A2 m 7 = nI lw.1 by rw [q2, zU_off (by omega)]; exact e7, nI_1] at q4
      have fr : ∀ b k, ¬ (b = m ∧ k = 7) → ¬ (b = m + 2 ∧ 240 * lw.1 ≤ k) → ¬ (b = m + 3 ∧ k = lw.1) → A3 b k = I3 b k := fun b k a1 a2 a3 => by rw [q4, zU_ne a1, q2, zU_ne a3, fA b k a2]
      have fb : ∀ b, b ≠ m → b ≠ m + 2 → b ≠ m + 3 → A3 b = I3 b := fun b a1 a2 a3 => funext fun k => fr b k (by omega) (by omega) (by omega)
      have e3 : A3 m 7 = nI (lw.1 + 1) := by rw [q4, zU_self]
      refine qI ?_ (hQ A3 J R' (m + 1) 240 ⟨S', ?_, M3.okv_, ?_, M3.oks_, ?_, ?_, ?_, ?_, ?_, ?_⟩ (fun b hb => ⟨?_, rfl⟩) hR)
      · rw [e3]
        exact (tk_sub (b := 1) (by omega)).trans (congrArg nI (by omega)) |>.symm
      · obtain ⟨⟨v1, v2⟩, v3, v4, v5, v6⟩ := M3.v_
        refine ⟨⟨by rw [fr m 26 (by omega) (by omega) (by omega)]; exact v1, by rw [fb (m + 7) (by omega) (by omega) (by omega)]; exact v2⟩, by rw [fr m 27 (by omega) (by omega) (by omega)]; exact v3, by rw [fb (m + 9) (by omega) (by omega) (by omega)]; exact v4, by rw [fb (m + 5) (by omega) (by omega) (by omega)]; exact v5, by rw [fb (m + 5) (by omega) (by omega) (by omega)]; exact v6⟩
      · unfold mS
        rw [fr m 39 (by omega) (by omega) (by omega), fr m 47 (by omega) (by omega) (by omega), fb (m + 13) (by omega) (by omega) (by omega), fb (m + 17) (by omega) (by omega) (by omega), fb (m + 20) (by omega) (by omega) (by omega)]
        exact M3.s_
      · exact ⟨Nat.zero_le _, by rw [fr m 6 (by omega) (by omega) (by omega)]; exact M3.tp_.2.1, fun j hj => absurd hj (Nat.not_lt_zero j)⟩
      · obtain ⟨l1, l2, l3, l5, l6⟩ := M3.lm_
        refine ⟨by show lw.1 + 1 ≤ 4; omega, e3, fun k hk => ?_, by rw [fb (m + 4) (by omega) (by omega) (by omega)]; exact l5, fun s hs => ?_⟩
        · replace hk : k < lw.1 + 1 := hk
          show (if k = lw.1 then tp.1 else tl k) ≤ 240 ∧ A3 (m + 3) k = nI (if k = lw.1 then tp.1 else tl k) ∧ (∃ q, plaw (if k = lw.1 then tp.2 else tt k) (if k = lw.1 then tp.1 else tl k) = (q, some (if k = lw.1 then cc else lw.2.1 k))) ∧ ∀ j, j < (if k = lw.1 then tp.1 else tl k) → A3 (m + 2) (240 * k + j) = sb ((if k = lw.1 then tp.2 else tt k) j) ∧ 1 ≤ (if k = lw.1 then tp.2 else tt k) j ∧ (if k = lw.1 then tp.2 else tt k) j < 256
          by_cases e : k = lw.1
          · subst e
            rw [if_pos rfl, if_pos rfl, if_pos rfl]
            refine ⟨t1, by rw [q4, zU_off (by omega), q2, zU_self], ⟨(plaw tp.2 tp.1).1, by rw [← hv]⟩, fun j hj => ⟨by rw [q4, zU_off (by omega), q2, zU_off (by omega)]; exact hA j hj, (tape3 j hj).2⟩⟩
          · rw [if_neg e, if_neg e, if_neg e]
            obtain ⟨b1, b2, b3, b4⟩ := l3 k (by omega)
            refine ⟨b1, by rw [fr (m + 3) k (by omega) (by omega) (by omega)]; exact b2, b3, fun j hj => ?_⟩
            rw [fr (m + 2) _ (by omega) (by omega) (by omega)]
            exact b4 j hj
        · rw [fb (m + 16) (by omega) (by omega) (by omega)]
          rcases l6 s hs with h | ⟨k, h', g, mn, b, l, d', k1, k2, k3, k4⟩
          · exact Or.inl h
          · refine Or.inr ⟨k, h', g, mn, b, l, d', by show k < lw.1 + 1; omega, k2, k3, ?_⟩
            show I3 (m + 16) s = wv (if k = lw.1 then cc else lw.2.1 k) h' g mn b l d'
            rw [if_neg (by omega)]
            exact k4
      · show (lw.2.2 = 0 ∧ A3 m 34 = -1) ∨ (∃ k, k < lw.1 + 1 ∧ lw.2.2 = k + 1 ∧ A3 m 34 = nI k)
        rw [fr m 34 (by omega) (by omega) (by omega)]
        rcases M3.hl_ with h | ⟨k, k1, k2, k3⟩
        · exact Or.inl h
        · exact Or.inr ⟨k, by omega, k2, k3⟩
      · unfold mP
        rw [fr m 30 (by omega) (by omega) (by omega), fb (m + 12) (by omega) (by omega) (by omega), fb (m + 11) (by omega) (by omega) (by omega)]
        exact M3.p_
      · unfold mG
        rw [fr m 44 (by omega) (by omega) (by omega), fb (m + 18) (by omega) (by omega) (by omega)]
        exact M3.g_
      · rw [fr m 35 (by omega) (by omega) (by omega)]
        exact M3.ap_
      · rw [fb b (by omega) (by omega) (by omega), q3, zU_off (by omega), F.out b hb]
        exact f1 b hb
    | succ j ih =>
      intro i A hi fA hA
      have e7 : A m 7 = nI lw.1 := by rw [fA m 7 (by omega)]; exact M3.lm_.2.1
      refine wX12_text_71 m (m + 1) 240 S' _ _ _ ⟨fun h => ?_, fun _ => ⟨(tk_in (by omega) (by omega)).mpr (by omega), ?_⟩⟩
      · rw [tk_le (by omega) (by omega)] at h
        omega
      rw [e7, show (240 * nI lw.1 : Int32) = nI (240 * lw.1) by rw [show (240 : Int32) = nI 240 from rfl, pk_mul], nI_add, tk_c (by omega), tk_c (by omega), fA (m + 1) i (by omega), (tape3 i (by omega)).1, sb_nar _ (tape3 i (by omega)).2.2, nI_1]
      refine ⟨(tk_in (by omega) (by omega)).mpr (by omega), fun A2 q2 => ?_⟩
      refine ih (i + 1) A2 (by omega) (fun b k a1 => by rw [q2, zU_ne (by omega), fA b k a1]) (fun k hk => ?_)
      rw [q2]
      by_cases e : k = i
      · rw [e, zU_self]
      · rw [zU_ne (by omega)]
        exact hA k (by omega)
  exact loop tp.1 0 I3 (by omega) (fun _ _ _ => rfl) (fun k hk => absurd hk (by omega))
theorem y_text2_y {z : Nat × (Nat → Int32)} (C : MIv G I J R K n m t c tl tt vl st tp lw sp ap sg B) (hl : sp.1 ≠ 4) (hv : (spR tp).2 = some z) : YL G (d + 10) mX12_text [.ref m, .int (nI 2)] I J R K n m tl tt (nI sp.1) vl st (0, tp.2) lw (spK sp z) ap sg B := by
  intro Q hQ
  obtain ⟨M1, f1⟩ := C.z0 (y := 0)
  have l4 := C.p_.1
  refine zC.of (by decide) (Nat.le_of_ble_eq_true rfl) ?_
  refine wX12_text_0 m t c C.S_ _ ?_
  rintro _ rfl
  refine c_in_y (N := 3) (by decide) (by decide) (by omega) ?_
  refine ⟨_, _, rfl, rfl, ?_⟩
  refine ⟨fun h => absurd h (by decide), fun _ => ⟨fun h => absurd h (by decide), fun _ => ⟨fun _ => ⟨fun h => ?_, fun _ => ?_⟩, fun h => absurd rfl h⟩⟩⟩
  · rw [M1.p_.2.1] at h
    exact absurd ((tk_eq (b := 4) (by omega) (by omega)).mp h) hl
  refine c_mfault2 M1 (fun I' R' z2 h F S' hR z1 z2' z3 => ?_) (fun I' R' h => ?_)
  case refine_2 => rw [hv] at h; injection h
  obtain rfl : z = z2 := by rw [hv] at h; injection h
  have M2 := M1.red S' F
  refine ⟨_, _, _, _, rfl, rfl, _, _, S', fun _ => ?_, fun h => absurd rfl h⟩
  intro I3 q3
  have M3 := M2.tp0
  rw [← q3] at M3
  refine ⟨fun h => absurd h (by decide), fun _ => ⟨fun _ => ?_, fun h => absurd rfl h⟩⟩
  obtain ⟨l2, hl2⟩ : ∃ l2, l2 = I' m 6 := ⟨_, rfl⟩
  rw [← hl2]
  have loop : ∀ (j i : Nat) (A : Nat → Nat → Int32), i + j = 48 → (∀ b k, ¬ (b = m + 11 ∧ 48 * sp.1 ≤ k ∧ k < 192) → A b k = I3 b k) → (∀ k, k < i → A (m + 11) (48 * sp.1 + k) = I3 (m + 11) (192 + k)) → zV G (d + 10) mX12_text 0 0 137 [(0, .ref m), (1, .int (nI 2)), (2, .int l2), (3, .int (nI i))] [] (A, J, R', K, n) Q := by
    intro j
    induction j with
    | zero =>
      intro i A hi fA hA
      obtain rfl : i = 48 := by omega
      have e30 : A m 30 = nI sp.1 := by rw [fA m 30 (by omega)]; exact M3.p_.2.1
      refine wX12_text_137 m (m + 1) 240 S' _ _ _ ⟨fun _ => ⟨(tk_in (n := 4) (by omega) (by omega)).mpr (by omega), ?_⟩, fun h => absurd (by decide) h⟩
      rw [e30]
      refine ⟨(tk_in (by omega) (by omega)).mpr (by omega), fun A2 q2 A3 q4 => ?_⟩
      rw [tk_c (by omega), show (4 : Int32).toNatClampNeg = 4 from rfl, fA (m + 12) 4 (by omega), q3, zU_off (by omega), z2'] at q2
      rw [show A2 m 30 = nI sp.1 by rw [q2, zU_off (by omega)]; exact e30, nI_1] at q4
      have fr : ∀ b k, ¬ (b = m ∧ k = 30) → ¬ (b = m + 11 ∧ 48 * sp.1 ≤ k ∧ k < 192) → ¬ (b = m + 12 ∧ k = sp.1) → A3 b k = I3 b k := fun b k a1 a2 a3 => by rw [q4, zU_ne a1, q2, zU_ne a3, fA b k a2]
      have fb : ∀ b, b ≠ m → b ≠ m + 11 → b ≠ m + 12 → A3 b = I3 b := fun b a1 a2 a3 => funext fun k => fr b k (by omega) (by omega) (by omega)
      have e3 : A3 m 30 = nI (sp.1 + 1) := by rw [q4, zU_self]
      refine qI ?_ (hQ A3 J R' (m + 1) 240 ⟨S', ?_, M3.okv_, ?_, M3.oks_, ?_, ?_, ?_, ?_, ?_, ?_⟩ (fun b hb => ⟨?_, rfl⟩) hR)
      · rw [e3]
        exact (tk_sub (b := 1) (by omega)).trans (congrArg nI (by omega)) |>.symm
      · obtain ⟨⟨v1, v2⟩, v3, v4, v5, v6⟩ := M3.v_
        refine ⟨⟨by rw [fr m 26 (by omega) (by omega) (by omega)]; exact v1, by rw [fb (m + 7) (by omega) (by omega) (by omega)]; exact v2⟩, by rw [fr m 27 (by omega) (by omega) (by omega)]; exact v3, by rw [fb (m + 9) (by omega) (by omega) (by omega)]; exact v4, by rw [fb (m + 5) (by omega) (by omega) (by omega)]; exact v5, by rw [fb (m + 5) (by omega) (by omega) (by omega)]; exact v6⟩
      · unfold mS
        rw [fr m 39 (by omega) (by omega) (by omega), fr m 47 (by omega) (by omega) (by omega), fb (m + 13) (by omega) (by omega) (by omega), fb (m + 17) (by omega) (by omega) (by omega), fb (m + 20) (by omega) (by omega) (by omega)]
        exact M3.s_
      · exact ⟨Nat.zero_le _, by rw [fr m 6 (by omega) (by omega) (by omega)]; exact M3.tp_.2.1, fun j hj => absurd hj (Nat.not_lt_zero j)⟩
      · unfold LMo
        rw [fr m 7 (by omega) (by omega) (by omega), fb (m + 3) (by omega) (by omega) (by omega), fb (m + 2) (by omega) (by omega) (by omega), fb (m + 4) (by omega) (by omega) (by omega), fb (m + 16) (by omega) (by omega) (by omega)]
        exact M3.lm_
      · unfold mHl
        rw [fr m 34 (by omega) (by omega) (by omega)]
        exact M3.hl_
      · obtain ⟨p1, p2, p3⟩ := M3.p_
        refine ⟨by show sp.1 + 1 ≤ 4; omega, e3, fun k hk => ?_⟩
        replace hk : k < sp.1 + 1 := hk
        show (if k = sp.1 then z.1 else sp.2.1 k) ≤ 16 ∧ A3 (m + 12) k = nI (if k = sp.1 then z.1 else sp.2.1 k) ∧ ∀ i, i < (if k = sp.1 then z.1 else sp.2.1 k) → A3 (m + 11) (3 * (16 * k + i)) = (if k = sp.1 then z.2 else sp.2.2 k) (3 * i) ∧ A3 (m + 11) (3 * (16 * k + i) + 1) = (if k = sp.1 then z.2 else sp.2.2 k) (3 * i + 1) ∧ A3 (m + 11) (3 * (16 * k + i) + 2) = (if k = sp.1 then z.2 else sp.2.2 k) (3 * i + 2) ∧ ((if k = sp.1 then z.2 else sp.2.2 k) (3 * i) = 0 ∨ (if k = sp.1 then z.2 else sp.2.2 k) (3 * i) = 1 ∨ (if k = sp.1 then z.2 else sp.2.2 k) (3 * i) = 2 ∨ (if k = sp.1 then z.2 else sp.2.2 k) (3 * i) = 3)
        by_cases e : k = sp.1
        · subst e
          rw [if_pos rfl, if_pos rfl]
          have ee : ∀ y, y < 48 → A3 (m + 11) (48 * sp.1 + y) = I' (m + 11) (192 + y) := fun y hy => by rw [q4, zU_off (by omega), q2, zU_off (by omega), hA y hy, q3, zU_off (by omega)]
          refine ⟨z1, by rw [q4, zU_off (by omega), q2, zU_self], fun i hi => ?_⟩
          obtain ⟨y1, y2, y3, y4⟩ := z3 i hi
          rw [show 3 * (16 * sp.1 + i) = 48 * sp.1 + 3 * i by omega, show 48 * sp.1 + 3 * i + 1 = 48 * sp.1 + (3 * i + 1) by omega, show 48 * sp.1 + 3 * i + 2 = 48 * sp.1 + (3 * i + 2) by omega, ee _ (by omega), ee _ (by omega), ee _ (by omega)]
          exact ⟨y1, y2, y3, y4⟩
        · rw [if_neg e, if_neg e]
          obtain ⟨b1, b2, b3⟩ := p3 k (by omega)
          refine ⟨b1, by rw [fr (m + 12) k (by omega) (by omega) (by omega)]; exact b2, fun i hi => ?_⟩
          rw [fr (m + 11) _ (by omega) (by omega) (by omega), fr (m + 11) _ (by omega) (by omega) (by omega), fr (m + 11) _ (by omega) (by omega) (by omega)]
          exact b3 i hi
      · unfold mG
        rw [fr m 44 (by omega) (by omega) (by omega), fb (m + 18) (by omega) (by omega) (by omega)]
        exact M3.g_
      · rw [fr m 35 (by omega) (by omega) (by omega)]
        exact M3.ap_
      · rw [fb b (by omega) (by omega) (by omega), q3, zU_off (by omega), F.out b hb]
        exact f1 b hb
    | succ j ih =>
      intro i A hi fA hA
      have e30 : A m 30 = nI sp.1 := by rw [fA m 30 (by omega)]; exact M3.p_.2.1
      refine wX12_text_137 m (m + 1) 240 S' _ _ _ ⟨fun h => ?_, fun _ => ?_⟩
      · rw [show (48 : Int32) = nI 48 from rfl, tk_le (by omega) (by omega)] at h
        omega
      rw [e30, show (48 * nI sp.1 : Int32) = nI (48 * sp.1) by rw [show (48 : Int32) = nI 48 from rfl, pk_mul], nI_add, show (192 + nI i : Int32) = nI (192 + i) from nI_add 192 i, tk_c (by omega), tk_c (by omega), fA (m + 11) (192 + i) (by omega), nI_1]
      refine ⟨(tk_in (by omega) (by omega)).mpr (by omega), (tk_in (by omega) (by omega)).mpr (by omega), fun A2 q2 => ?_⟩
      refine ih (i + 1) A2 (by omega) (fun b k a1 => by rw [q2, zU_ne (by omega), fA b k a1]) (fun k hk => ?_)
      rw [q2]
      by_cases e : k = i
      · rw [e, zU_self]
      · rw [zU_ne (by omega)]
        exact hA k (by omega)
  exact loop 48 0 I3 (by omega) (fun _ _ _ => rfl) (fun k hk => absurd hk (by omega))
end
