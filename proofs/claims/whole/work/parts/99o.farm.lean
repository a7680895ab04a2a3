/-! THE FACE: farm; the two states beside each other -/
section
variable {G : zG} {d : Nat} {I : Nat → Nat → Int32} {J : Nat → Nat → Int64} {R : Nat → Nat → Option Nat} {K : Nat → Nat × Nat} {n : Nat} {x m v w q nx lo M t c o : Nat} {lk sq : Nat → Nat} {tl : Nat → Nat} {tt : Nat → Nat → Nat} {vl vl' : Vt} {st : Stt} {tp : Tpt} {lw : Lwt} {sp : Spt} {ap : Nat} {sg : Sgt} {B B' : Nat} {p1 p2 : Int32} {T : Nat → Nat} {Q : Option Value → zH → Prop} {I' : Nat → Nat → Int32} {J' : Nat → Nat → Int64} {R' : Nat → Nat → Option Nat} {K' : Nat → Nat × Nat} {n' : Nat}
/-- what is asked of a farm -/
def frmA (vl : Vt) (st : Stt) (f k : Nat) : Nat := if k = 0 then vl.2.1 (2 * f) else if k = 1 then vl.2.1 (2 * f + 1) else if k = 2 then st.1 (27 + 3 * f) else if k = 3 then st.1 (28 + 3 * f) else if k = 4 then bareA vl.2.1 st.1 f else st.1 (29 + 3 * f)
theorem frmA_lt (O : okSt vl st B) (W : okVl vl) {f k : Nat} (hf : f < vl.1) : frmA vl st f k < 100001 := by
  have h6 := W.1.1
  have o := O.1
  have y := W.1.2 f hf
  have t := o.t W.1 (show f < 6 by omega)
  have b := bareA_le (T := st.1) W.1 hf
  have z := o.2.2.2.1 f (by omega)
  have zz := o.2.2.2.2.2.2.2.2.2
  unfold frmA
  repeat' split
  all_goals omega
theorem x_farm_y (C : CIv G I R K n x m v w q nx lo M lk sq vl st tp lw sp ap sg B) (ho : sA G K n o 35 1) {f k : Nat} (hf : f < vl.1) (hk : k < 6) (hQ : Q (some (.int 0)) (I, zU J o 0 (nI (frmA vl st f k)).toInt64, R, K, n)) : zCF G (d + 4) 1 6 [.ref x, .int (nI f), .int (nI k), .ref o] (I, J, R, K, n) Q := by
  have h6 := C.okv.1.1
  have inf : vp_in (nI f) 6 := (tk_in (by omega) (by omega)).mpr (by omega)
  have hs := C.cs.2.1 f (by omega)
  refine helper_ok (X_0 C.X) ho ?_
  refine zC.of (by decide) (Nat.le_of_ble_eq_true rfl) ?_
  refine wX11_farm_0 x v w q C.X _ _ ?_
  refine c_xf_y C hf ?_
  refine ⟨_, _, rfl, rfl, ?_⟩
  refine ⟨fun h => absurd h (by decide), fun _ => ⟨fun h => absurd h (nI_pos (by omega)), fun _ => ⟨fun _ => ?_, fun h => absurd ((tk_le (b := 5) (by omega) (by omega)).mpr (by omega)) h⟩⟩⟩
  refine wX11_farm_25 x v w q C.X _ _ ?_
  rw [tk_c (by omega)]
  have fin : ∀ y : Nat, y = frmA vl st f k → ∃ y' : Int32, some (Value.int (nI y)) = some (.int y') ∧ (I, J, R, K, n) = (I, J, R, K, n) ∧ Q (some (.int 0)) (I, zU J o 0 y'.toInt64, R, K, n) := fun y e => ⟨_, rfl, rfl, by rw [e]; exact hQ⟩
  have ne : ∀ a b : Nat, a < 6 → b < 6 → a ≠ b → ¬ nI a = nI b := fun a b h1 h2 h3 h => h3 ((tk_eq (by omega) (by omega)).mp h)
  refine ⟨fun h => ⟨inf, ?_⟩, fun h => ⟨inf, ?_⟩, fun h => ⟨inf, ?_⟩, fun h => ⟨inf, ?_⟩, fun h => ?_, fun n0 n1 n2 n3 n4 => ⟨inf, ?_⟩⟩
  · obtain rfl : k = 0 := (tk_eq (b := 0) (by omega) (by omega)).mp h
    rw [(C.cv.1.2 f hf).1]
    exact fin _ rfl
  · obtain rfl : k = 1 := (tk_eq (b := 1) (by omega) (by omega)).mp h
    rw [(C.cv.1.2 f hf).2]
    exact fin _ rfl
  · obtain rfl : k = 2 := (tk_eq (b := 2) (by omega) (by omega)).mp h
    rw [show x + 16 = x + 12 + 4 by omega, hs.1]
    exact fin _ rfl
  · obtain rfl : k = 3 := (tk_eq (b := 3) (by omega) (by omega)).mp h
    rw [show x + 17 = x + 12 + 5 by omega, hs.2.1]
    exact fin _ rfl
  · obtain rfl : k = 4 := (tk_eq (b := 4) (by omega) (by omega)).mp h
    refine c_bare (X_5 C.X) C.cv.1 C.okv.1 C.cs C.oks.1 hf ?_
    refine ⟨_, _, rfl, rfl, ?_⟩
    exact fin _ rfl
  · have e5 : k = 5 := by
      have : ∀ b : Nat, b < 5 → k ≠ b → True := fun _ _ _ => trivial
      have h0 : k ≠ 0 := fun h => n0 (by rw [h]; rfl)
      have h1 : k ≠ 1 := fun h => n1 (by rw [h]; rfl)
      have h2 : k ≠ 2 := fun h => n2 (by rw [h]; rfl)
      have h3 : k ≠ 3 := fun h => n3 (by rw [h]; rfl)
      have h4 : k ≠ 4 := fun h => n4 (by rw [h]; rfl)
      omega
    subst e5
    rw [show x + 18 = x + 12 + 6 by omega, hs.2.2]
    exact fin _ rfl
theorem x_farm_n (C : CIv G I R K n x m v w q nx lo M lk sq vl st tp lw sp ap sg B) (hn : ¬ ∃ f k : Nat, f < vl.1 ∧ k < 6 ∧ p1 = nI f ∧ p2 = nI k) (hQ : ∀ n', n ≤ n' → Q (some (.int 1)) (zJk (I, J, R, K, n) n')) : zCF G (d + 9) 1 6 [.ref x, .int p1, .int p2, .ref o] (I, J, R, K, n) Q := by
  refine helper_thr C.X ?_ hQ
  rintro ⟨a1, a2, a3, a4⟩
  have h6 := C.okv.1.1
  rw [C.cv.1.1] at a2
  obtain ⟨f, hf, rfl⟩ := tk_of (N := vl.1) a1 (Int32.not_le.mp a2) (by omega)
  obtain ⟨k, hk, rfl⟩ := in3 (N := 5) (by decide) a3 a4
  exact hn ⟨f, k, hf, hk, rfl, rfl⟩
theorem y_farm_y (C : MIv G I J R K n m t c tl tt vl st tp lw sp ap sg B) {f k : Nat} (hf : f < vl.1) (hk : k < 6) (hQ : ∀ I', MIv G I' J R K n m t c tl tt vl st tp lw sp ap sg B → I' m 0 = 0 → (∀ b, b < m ∨ m + 21 ≤ b → I' b = I b) → Q (some (.int (nI (frmA vl st f k)))) (I', J, R, K, n)) : zC G (d + 3) mX12_farm 0 0 [.ref m, .int (nI f), .int (nI k)] (I, J, R, K, n) Q := by
  have h6 := C.okv_.1.1
  obtain ⟨M1, f1⟩ := C.z0 (y := 0)
  have e0 : zU I m 0 (0 : Int32) m 0 = 0 := zU_self ..
  have mr := M1.mr
  have fin : ∀ y : Nat, y = frmA vl st f k → Q (some (.int (nI y))) (zU I m 0 0, J, R, K, n) := fun y e => by rw [e]; exact hQ _ M1 e0 f1
  refine zC.of (by decide) (Nat.le_of_ble_eq_true rfl) ?_
  refine wX12_farm_0 m t c C.S_ _ _ ?_
  refine c_mf_y C.S_ C.v_.1.1 h6 hf ?_
  refine ⟨_, _, rfl, rfl, ?_⟩
  refine ⟨fun h => absurd h (by decide), fun _ => ?_⟩
  refine c_in_y (N := 6) (by decide) (by decide) hk ?_
  refine ⟨_, _, rfl, rfl, ?_⟩
  rw [if_neg (by decide)]
  rintro _ rfl
  rw [e0]
  refine ⟨fun _ => ?_, fun h => absurd (by decide) h⟩
  rw [show (2 * nI f : Int32) = nI (2 * f) by rw [show (2 : Int32) = nI 2 from rfl, pk_mul], nI_add, show (27 + 3 * nI f : Int32) = nI (27 + 3 * f) by rw [show (3 : Int32) = nI 3 from rfl, pk_mul]; exact nI_add 27 _, show (nI (27 + 3 * f) + 0 : Int32) = nI (27 + 3 * f) from nI_add _ 0, nI_1, show (nI (27 + 3 * f) + 2 : Int32) = nI (29 + 3 * f) from (nI_add _ 2).trans (congrArg nI (by omega)), tk_c (by omega), tk_c (by omega), tk_c (by omega), tk_c (by omega)]
  refine ⟨fun h => ⟨(tk_in (by omega) (by omega)).mpr (by have := (tk_eq (b := 0) (by omega) (by omega)).mp h; omega), ?_⟩, fun h => ⟨(tk_in (by omega) (by omega)).mpr (by have := (tk_eq (b := 1) (by omega) (by omega)).mp h; omega), ?_⟩, fun h => ⟨(tk_in (by omega) (by omega)).mpr (by omega), ?_⟩, fun h => ⟨(tk_in (by omega) (by omega)).mpr (by omega), ?_⟩, fun h => ?_, fun n0 n1 n2 n3 n4 => ⟨(tk_in (by omega) (by omega)).mpr (by omega), ?_⟩⟩
  · obtain rfl : k = 0 := (tk_eq (b := 0) (by omega) (by omega)).mp h
    rw [show 2 * f + 0 = 2 * f from rfl, (M1.v_.1.2 f hf).1]
    exact fin _ rfl
  · obtain rfl : k = 1 := (tk_eq (b := 1) (by omega) (by omega)).mp h
    rw [(M1.v_.1.2 f hf).2]
    exact fin _ rfl
  · obtain rfl : k = 2 := (tk_eq (b := 2) (by omega) (by omega)).mp h
    rw [mr _ (by omega)]
    exact fin _ rfl
  · obtain rfl : k = 3 := (tk_eq (b := 3) (by omega) (by omega)).mp h
    rw [mr _ (by omega)]
    exact fin _ (by show st.1 (27 + 3 * f + 1) = st.1 (28 + 3 * f); exact congrArg st.1 (by omega))
  · obtain rfl : k = 4 := (tk_eq (b := 4) (by omega) (by omega)).mp h
    refine c_mbare M1.S_ (Mod_26 M1.S_) M1.v_.1 C.okv_.1 mr C.oks_.1 hf ?_
    refine ⟨_, _, rfl, rfl, ?_⟩
    exact fin _ rfl
  · have e5 : k = 5 := by
      have h0 : k ≠ 0 := fun h => n0 (by rw [h]; rfl)
      have h1 : k ≠ 1 := fun h => n1 (by rw [h]; rfl)
      have h2 : k ≠ 2 := fun h => n2 (by rw [h]; rfl)
      have h3 : k ≠ 3 := fun h => n3 (by rw [h]; rfl)
      have h4 : k ≠ 4 := fun h => n4 (by rw [h]; rfl)
      omega
    subst e5
    rw [mr _ (by omega)]
    exact fin _ rfl
theorem y_farm_n (C : MIv G I J R K n m t c tl tt vl st tp lw sp ap sg B) (hn : ¬ ∃ f k : Nat, f < vl.1 ∧ k < 6 ∧ p1 = nI f ∧ p2 = nI k) (hQ : ∀ I', MIv G I' J R K n m t c tl tt vl st tp lw sp ap sg B → I' m 0 = 1 → (∀ b, b < m ∨ m + 21 ≤ b → I' b = I b) → Q (some (.int 0)) (I', J, R, K, n)) : zC G (d + 3) mX12_farm 0 0 [.ref m, .int p1, .int p2] (I, J, R, K, n) Q := by
  have h6 := C.okv_.1.1
  obtain ⟨M1, f1⟩ := C.z0 (y := 1)
  have e0 : zU I m 0 (1 : Int32) m 0 = 1 := zU_self ..
  refine zC.of (by decide) (Nat.le_of_ble_eq_true rfl) ?_
  refine wX12_farm_0 m t c C.S_ _ _ ?_
  rcases bad_or (N := vl.1) (by omega) p1 with h | ⟨f, hf, rfl⟩
  · refine c_mf_n C.S_ C.v_.1.1 h ?_
    refine ⟨_, _, rfl, rfl, ?_⟩
    refine ⟨fun _ => ?_, fun h => absurd rfl h⟩
    rintro _ rfl
    rw [e0]
    exact ⟨fun h => absurd h (by decide), fun _ => hQ _ M1 e0 f1⟩
  refine c_mf_y C.S_ C.v_.1.1 h6 hf ?_
  refine ⟨_, _, rfl, rfl, ?_⟩
  refine ⟨fun h => absurd h (by decide), fun _ => ?_⟩
  rcases bad_or (N := 6) (by omega) p2 with h | ⟨k, hk, rfl⟩
  · refine c_in_n (N := 6) (by decide) (by decide) h ?_
    refine ⟨_, _, rfl, rfl, ?_⟩
    rw [if_pos rfl]
    rintro _ rfl
    rw [e0]
    exact ⟨fun h => absurd h (by decide), fun _ => hQ _ M1 e0 f1⟩
  exact absurd ⟨f, k, hf, hk, rfl, rfl⟩ hn
theorem y_thrown (S : hMod G R K n m t c) (hQ : Q (some (.int (I m 0))) (I, J, R, K, n)) : zC G (d + 1) mX12_thrown 0 0 [.ref m] (I, J, R, K, n) Q := by
  refine zC.of (by decide) (Nat.le_of_ble_eq_true rfl) ?_
  refine wX12_thrown_0 m t c S ?_
  exact hQ
/-- the class, where cells of no use were made -/
theorem CIv.grow (C : CIv G I R K n x m v w q nx lo M lk sq vl st tp lw sp ap sg B) (hK : ∀ b, b < n → K' b = K b) (hn : n ≤ n') : CIv G I R K' n' x m v w q nx lo M lk sq vl st tp lw sp ap sg B := by
  have vn := C.vn
  have g := C.gm
  refine ⟨X_mono (y := n) C.X hK (fun _ _ _ => rfl) hn (by omega) (by omega) (by omega) (by omega) (by omega) (by omega) (by omega) (by omega) (by omega) (by omega) (by omega) (by omega) (by omega) (by omega) (by omega) (by omega) (by omega) (by omega), C.vw, ⟨g.1, by have := g.2.1; omega, fun k hk => ?_, fun k hk => ?_, g.2.2.2.2.1, by have := g.2.2.2.2.2.1; omega, g.2.2.2.2.2.2⟩, C.tp, C.cv, C.okv, C.cs, C.oks, C.hr, C.hd, C.lg, C.im, ?_, ?_, C.cg, C.ap⟩
  · have := g.2.2.1 k hk; omega
  · have := g.2.2.2.1 k hk; exact ⟨this.1, by omega⟩
  · obtain ⟨c1, c2, c3, c4⟩ := C.cl
    refine ⟨c1, c2, fun k hk => ?_, c4⟩
    have := g.2.2.1 k hk
    obtain ⟨a1, a2, a3, a4⟩ := c3 k hk
    exact ⟨a1, Law_mono (y := n) a2 hK (fun _ _ _ => rfl) hn (by omega), a3, a4⟩
  · obtain ⟨c1, c2, c3⟩ := C.cp
    refine ⟨c1, c2, fun k hk => ?_⟩
    have := g.2.2.2.1 k hk
    obtain ⟨a1, a2, a3⟩ := c3 k hk
    exact ⟨a1, Spr_mono (y := n) a2 hK (fun _ _ _ => rfl) hn (by omega), a3⟩
/-- the class, where the model's cells alone have changed -/
theorem CIv.outM (C : CIv G I R K n x m v w q nx lo M lk sq vl st tp lw sp ap sg B) (hI : ∀ b, b < m ∨ m + 21 ≤ b → I' b = I b) (hR : ∀ b, b ≠ m → R' b = R b) : CIv G I' R' K n x m v w q nx lo M lk sq vl st tp lw sp ap sg B := by
  have vn := C.vn
  have vw := C.vw
  have g := C.gm
  have g1 := g.1
  have g5 := g.2.2.2.2.1
  have hnx := C.hr.2.2.1
  refine ⟨X_mono (y := m) C.X (fun _ _ => rfl) (fun b _ hb => hR b hb) (Nat.le_refl _) (by omega) (by omega) (by omega) (by omega) (by omega) (by omega) (by omega) (by omega) (by omega) (by omega) (by omega) (by omega) (by omega) (by omega) (by omega) (by omega) (by omega) (by omega), C.vw, g, C.tp.same (by rw [hI _ (by omega)]) (hI _ (by omega)), C.cv.same (fun b b1 b2 => hI b (by omega)), C.okv, C.cs.same (fun b b1 b2 => hI b (by omega)), C.oks, C.hr.same (hI _ (by omega)) (fun j hj hne => hI _ (by omega)), C.hd, C.lg.same (fun b b1 b2 => hI b (by omega)), C.im.same (by rw [hI _ (by omega)]) (fun b b1 b2 => hI b (by omega)), ?_, ?_, C.cg.same (fun b b1 b2 => hI b (by omega)), by rw [hI x (by omega)]; exact C.ap⟩
  · obtain ⟨c1, c2, c3, c4⟩ := C.cl
    refine ⟨c1, by rw [hI x (by omega)]; exact c2, fun k hk => ?_, by rw [hI x (by omega), hR (x + 3) (by omega)]; exact c4⟩
    have := g.2.2.1 k hk
    obtain ⟨a1, a2, a3, a4⟩ := c3 k hk
    exact ⟨by rw [hR _ (by omega)]; exact a1, Law_R a2 (hR _ (by omega)), a3, fun j hj => by rw [hI _ (by omega)]; exact a4 j hj⟩
  · obtain ⟨c1, c2, c3⟩ := C.cp
    refine ⟨c1, by rw [hI x (by omega)]; exact c2, fun k hk => ?_⟩
    have := g.2.2.2.1 k hk
    obtain ⟨a1, a2, a3⟩ := c3 k hk
    exact ⟨by rw [hR _ (by omega)]; exact a1, Spr_R a2 (hR _ (by omega)), a3.same (fun b b1 b2 => hI b (by omega))⟩
/-- the model, where none of its cells has changed -/
theorem MIv.outX (C : MIv G I J R K n m t c tl tt vl st tp lw sp ap sg B) (h : ∀ b, m ≤ b → b < m + 21 → I' b = I b ∧ J' b = J b ∧ R' b = R b) (hK : ∀ b, b < n → K' b = K b) (hn : n ≤ n') : MIv G I' J' R' K' n' m t c tl tt vl st tp lw sp ap sg B := by
  have S1 : hMod G R' K n m t c := hMod_R C.S_ (h m (by omega) (by omega)).2.2
  have ml := (Mod_0 C.S_).2.1
  have S2 : hMod G R' K' n' m t c := Mod_mono (y := n) S1 hK (fun _ _ _ => rfl) hn (by omega)
  have C1 : MIv G I J R' K' n' m t c tl tt vl st tp lw sp ap sg B := ⟨S2, C.2⟩
  have C2 := C1.j (h (m + 15) (by omega) (by omega)).2.1
  refine C2.same S2 (fun b k hb => ?_) ?_
  · rw [(h b (by unfold scm at hb; omega) (by unfold scm at hb; omega)).1]
  · have hI : ∀ b, m ≤ b → b < m + 21 → I' b = I b := fun b b1 b2 => (h b b1 b2).1
    have L := C2.lm_
    unfold LMo at L ⊢
    rw [hI m (by omega) (by omega), hI (m + 3) (by omega) (by omega), hI (m + 2) (by omega) (by omega), hI (m + 4) (by omega) (by omega), hI (m + 16) (by omega) (by omega)]
    exact L
end
theorem pla_le {tx : Nat → Nat} {ln f : Nat} : ∀ (j p : Nat), p ≤ ln → (pla tx ln f j p).1 ≤ ln
  | 0, p, hp => hp
  | j + 1, p, hp => by
    rw [pla_eq]
    have hcs : ∀ q, q ≤ ln → (pcs tx ln f q).1 ≤ ln := fun q hq => sq_le (acc_le (by decide) hq) (fun q2 hq2 => sq_le hq2 (fun q3 hq3 => pz_le _ _ _ _ hq3))
    refine sq_le (sq_le ?_ (fun q hq => hq)) (fun q hq => ?_)
    · refine sq_le (acc_le (by decide) hp) (fun q0 hq0 => sq_le (acc_le (by decide) hq0) (fun q1 hq1 => ?_))
      have g3 := sk_le (tx := tx) hq1
      split
      · exact sq_le (pz_le _ _ _ _ g3) hcs
      · refine sq_le (pz_le _ _ _ _ g3) (fun e he => ?_)
        have g4 := sk_le (tx := tx) he
        split
        · exact sq_le (pz_le _ _ _ _ g4) hcs
        · exact g4
    · have g3 := sk_le (tx := tx) hq
      unfold plr
      split
      · exact g3
      split
      · rename_i h59
        have := lk_lt (p := q) (tx := tx) (ln := ln) (by rw [h59]; decide)
        exact pla_le j _ (by omega)
      · exact g3
theorem plaw_le {tx : Nat → Nat} {ln : Nat} : (plaw tx ln).1 ≤ ln := pla_le _ _ (by omega)
