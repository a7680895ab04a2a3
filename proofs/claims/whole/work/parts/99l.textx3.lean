/-! THE FACE: text: the class's answers -/
theorem plaw_len {tx : Nat → Nat} {ln : Nat} {cc : List Int32} (h : (plaw tx ln).2 = some cc) (hl : ln ≤ 240) : cc.length < 240 := by
  have := pla_pos (tx := tx) (ln := ln) (f := 8 * ln + 8) (ln + 1) 0 (plaw tx ln).1 cc (by omega) (by rw [← h]; rfl)
  omega
section
variable {G : zG} {d : Nat} {I : Nat → Nat → Int32} {J : Nat → Nat → Int64} {R : Nat → Nat → Option Nat} {K : Nat → Nat × Nat} {n : Nat} {x m v w q nx lo M t c : Nat} {lk sq : Nat → Nat} {tl : Nat → Nat} {tt : Nat → Nat → Nat} {vl vl' : Vt} {st : Stt} {tp : Tpt} {lw : Lwt} {sp : Spt} {ap : Nat} {sg : Sgt} {B B' : Nat} {p p2 : Int32} {T : Nat → Nat} {Q : Option Value → zH → Prop}
theorem CIv.tp0 (C : CIv G I R K n x m v w q nx lo M lk sq vl st tp lw sp ap sg B) : CIv G (zU I (x + 1) 1 0) R K n x m v w q nx lo M lk sq vl st (0, tp.2) lw sp ap sg B := C.tape (fun b j h1 h2 => zU_ne (by omega)) ⟨Nat.zero_le _, zU_self .., fun j hj => absurd hj (Nat.not_lt_zero j)⟩
theorem c_room {k : Nat} (C : CIv G I R K n x m v w q nx lo M lk sq vl st tp lw sp ap sg B) (hk : k < 3) (hQ : Q (some (.int (if (k = 1 ∧ lw.1 = 4) ∨ (k = 2 ∧ sp.1 = 4) then 0 else 1))) (I, J, R, K, n)) : zC G (d + 1) mX11_hasRoom 0 0 [.ref x, .int (nI k)] (I, J, R, K, n) Q := by
  have l1 := C.cl.1
  have s1 := C.cp.1
  refine zC.of (by decide) (Nat.le_of_ble_eq_true rfl) ?_
  refine wX11_hasRoom_0 x v w q C.X _ ?_
  have : k = 0 ∨ k = 1 ∨ k = 2 := by omega
  rcases this with rfl | rfl | rfl
  · rw [if_neg (by omega)] at hQ
    exact ⟨fun _ => hQ, fun h => absurd h (by decide), fun h => absurd h (by decide), fun h => absurd rfl h⟩
  · refine ⟨fun h => absurd h (by decide), fun _ => qI ?_ hQ, fun h => absurd h (by decide), fun _ h => absurd rfl h⟩
    rw [C.cl.2.1]
    by_cases h : lw.1 = 4
    · rw [if_pos (Or.inl ⟨rfl, h⟩), if_pos (show (4 : Int32) ≤ nI lw.1 from (tk_le (a := 4) (by omega) (by omega)).mpr (by omega))]
    · rw [if_neg (by omega), if_neg (fun h2 => h (by have := (tk_le (a := 4) (by omega) (by omega)).mp h2; omega))]
  · refine ⟨fun h => absurd h (by decide), fun h => absurd h (by decide), fun _ => qI ?_ hQ, fun _ _ h => absurd rfl h⟩
    rw [C.cp.2.1]
    by_cases h : sp.1 = 4
    · rw [if_pos (Or.inr ⟨rfl, h⟩), if_pos (show (4 : Int32) ≤ nI sp.1 from (tk_le (a := 4) (by omega) (by omega)).mpr (by omega))]
    · rw [if_neg (by omega), if_neg (fun h2 => h (by have := (tk_le (a := 4) (by omega) (by omega)).mp h2; omega))]
theorem x_text_b (C : CIv G I R K n x m v w q nx lo M lk sq vl st tp lw sp ap sg B) (hp : bad 3 p) : XT G (d + 2) [.ref x, .int p] I J R K n x m (-1) vl st tp lw sp ap sg B := by
  intro Q hQ
  replace hQ := hQ I J R K n v w q nx lo M lk sq C (Nat.le_refl _) (fun _ _ => rfl) (fun _ _ _ => ⟨rfl, rfl, rfl⟩)
  refine zC.of (by decide) (Nat.le_of_ble_eq_true rfl) ?_
  refine wX11_textN (kc := 0) (ks := 0) x v w q C.X _ ?_
  refine zC.of (by decide) (Nat.le_of_ble_eq_true rfl) ?_
  refine wX11_hasRoom_0 x v w q C.X _ ?_
  have no : ∀ k : Nat, k < 3 → p ≠ nI k := fun k hk e => bad_not (N := 3) (by omega) hk (by rw [← e]; exact hp)
  refine ⟨fun h => absurd h (no 0 (by omega)), fun h => absurd h (no 1 (by omega)), fun h => absurd h (no 2 (by omega)), fun _ _ _ => ⟨_, _, rfl, rfl, fun _ => hQ, fun h => absurd rfl h⟩⟩
theorem x_text_r {k : Nat} (C : CIv G I R K n x m v w q nx lo M lk sq vl st tp lw sp ap sg B) (hk : k < 3) (h : (k = 1 ∧ lw.1 = 4) ∨ (k = 2 ∧ sp.1 = 4)) : XT G (d + 2) [.ref x, .int (nI k)] I J R K n x m (-1) vl st tp lw sp ap sg B := by
  intro Q hQ
  replace hQ := hQ I J R K n v w q nx lo M lk sq C (Nat.le_refl _) (fun _ _ => rfl) (fun _ _ _ => ⟨rfl, rfl, rfl⟩)
  refine zC.of (by decide) (Nat.le_of_ble_eq_true rfl) ?_
  refine wX11_textN (kc := 0) (ks := 0) x v w q C.X _ ?_
  refine c_room C hk ?_
  refine ⟨_, _, rfl, rfl, ?_⟩
  rw [if_pos h]
  exact ⟨fun _ => hQ, fun h => absurd rfl h⟩
theorem x_text0_n (C : CIv G I R K n x m v w q nx lo M lk sq vl st tp lw sp ap sg B) (hv : (villP tp.2 tp.1).2 = none) : XT G (d + 10) [.ref x, .int (nI 0)] I J R K n x m (-1) vl st tp lw sp ap sg B := by
  intro Q hQ
  refine zC.of (by decide) (Nat.le_of_ble_eq_true rfl) ?_
  refine wX11_textN (kc := 0) (ks := 0) x v w q C.X _ ?_
  refine c_room C (k := 0) (by omega) ?_
  refine ⟨_, _, rfl, rfl, ?_⟩
  rw [if_neg (by omega)]
  refine ⟨fun h => absurd h (by decide), fun _ => ?_⟩
  refine c_reads0 C (fun I' vl' h => ?_) (fun I' _ h' e => ?_)
  · rw [hv] at h; injection h
  · exact ⟨_, _, _, rfl, rfl, v, w, q, C.X, fun _ => hQ I' J R K n v w q nx lo M lk sq (C.same h') (Nat.le_refl _) (fun _ _ => rfl) (fun b b1 b2 => ⟨C.mid h' b b1 b2, rfl, rfl⟩), fun h => absurd rfl h⟩
theorem x_text1_n (C : CIv G I R K n x m v w q nx lo M lk sq vl st tp lw sp ap sg B) (hl : lw.1 ≠ 4) (hv : (plaw tp.2 tp.1).2 = none) : XT G (d + 32) [.ref x, .int (nI 1)] I J R K n x m (-1) vl st tp lw sp ap sg B := by
  intro Q hQ
  have g := C.gm
  refine zC.of (by decide) (Nat.le_of_ble_eq_true rfl) ?_
  refine wX11_textN (kc := 0) (ks := 0) x v w q C.X _ ?_
  refine c_room C (k := 1) (by omega) ?_
  refine ⟨_, _, rfl, rfl, ?_⟩
  rw [if_neg (by omega)]
  refine ⟨fun h => absurd h (by decide), fun _ => ?_⟩
  refine c_reads1 C (fun I' cc h => ?_) (fun I' _ h' e => ?_)
  · rw [hv] at h; injection h
  · exact ⟨_, _, _, rfl, rfl, v, w, q, (C.r97 (z := some (x + 1))).X, fun _ => hQ I' J _ K n v w q nx lo M lk sq ((C.same h').r97) (Nat.le_refl _) (fun _ _ => rfl) (fun b b1 b2 => ⟨C.mid h' b b1 b2, rfl, zU_off (by have := g.1; omega)⟩), fun h => absurd rfl h⟩
theorem x_text2_n (C : CIv G I R K n x m v w q nx lo M lk sq vl st tp lw sp ap sg B) (hl : sp.1 ≠ 4) (hv : (spR tp).2 = none) : XT G (d + 10) [.ref x, .int (nI 2)] I J R K n x m (-1) vl st tp lw sp ap sg B := by
  intro Q hQ
  refine zC.of (by decide) (Nat.le_of_ble_eq_true rfl) ?_
  refine wX11_textN (kc := 0) (ks := 0) x v w q C.X _ ?_
  refine c_room C (k := 2) (by omega) ?_
  refine ⟨_, _, rfl, rfl, ?_⟩
  rw [if_neg (by omega)]
  refine ⟨fun h => absurd h (by decide), fun _ => ?_⟩
  refine c_reads2 C (fun I' cc h => ?_) (fun I' _ h' e => ?_)
  · rw [hv] at h; injection h
  · exact ⟨_, _, _, rfl, rfl, v, w, q, C.X, fun _ => hQ I' J R K n v w q nx lo M lk sq (C.same h') (Nat.le_refl _) (fun _ _ => rfl) (fun b b1 b2 => ⟨C.mid h' b b1 b2, rfl, rfl⟩), fun h => absurd rfl h⟩
theorem x_text0_y (C : CIv G I R K n x m v w q nx lo M lk sq vl st tp lw sp ap sg B) (hv : (villP tp.2 tp.1).2 = some vl') : XT G (d + 10) [.ref x, .int (nI 0)] I J R K n x m (nI vl'.1) vl' (stV vl' st) (0, tp.2) lw sp ap (0, sg.2) B := by
  intro Q hQ
  have g := C.gm
  have vw := C.vw
  refine zC.of (by decide) (Nat.le_of_ble_eq_true rfl) ?_
  refine wX11_textN (kc := 0) (ks := 0) x v w q C.X _ ?_
  refine c_room C (k := 0) (by omega) ?_
  refine ⟨_, _, rfl, rfl, ?_⟩
  rw [if_neg (by omega)]
  refine ⟨fun h => absurd h (by decide), fun _ => ?_⟩
  refine c_reads0 C (fun I' vl2 h h' cv => ?_) (fun I' h => ?_)
  · obtain rfl : vl' = vl2 := by rw [hv] at h; injection h
    refine ⟨_, _, _, rfl, rfl, v, w, q, C.X, fun h => absurd h (by decide), fun _ => ?_⟩
    intro I2 q2
    have C2 := (C.same h').tp0
    rw [← q2] at C2
    refine ⟨fun _ => ?_, fun h => absurd rfl h⟩
    refine c_settle C2 (cv.same (fun b b1 b2 => by rw [q2, zU_off (by omega)])) (villP_ok.2 _ hv).1 ?_
    intro I3 R3 lk3 C3 f3
    exact ⟨_, _, _, rfl, rfl, _, _, _, C3.X, hQ I3 J R3 K n _ _ _ _ _ _ _ _ C3 (Nat.le_refl _) (fun _ _ => rfl) (fun b b1 b2 => ⟨by rw [(f3 b b1 b2).1, q2, zU_off (by have := g.1; omega)]; exact C.mid h' b b1 b2, rfl, (f3 b b1 b2).2⟩)⟩
  · rw [hv] at h; injection h
theorem x_text1_y {cc : List Int32} (C : CIv G I R K n x m v w q nx lo M lk sq vl st tp lw sp ap sg B) (hl : lw.1 ≠ 4) (hv : (plaw tp.2 tp.1).2 = some cc) : XT G (d + 32) [.ref x, .int (nI 1)] I J R K n x m (nI lw.1) vl st (0, tp.2) (lwK lw cc) sp ap sg B := by
  intro Q hQ
  have g := C.gm
  have g1 := g.1
  have g2 := g.2.1
  have l4 := C.cl.1
  have cl := plaw_len hv C.tp.1
  refine zC.of (by decide) (Nat.le_of_ble_eq_true rfl) ?_
  refine wX11_textN (kc := 0) (ks := 0) x v w q C.X _ ?_
  refine c_room C (k := 1) (by omega) ?_
  refine ⟨_, _, rfl, rfl, ?_⟩
  rw [if_neg (by omega)]
  refine ⟨fun h => absurd h (by decide), fun _ => ?_⟩
  refine c_reads1 C (fun I' cc2 h h' e1 e2 => ?_) (fun I' h => ?_)
  · obtain rfl : cc = cc2 := by rw [hv] at h; injection h
    refine ⟨_, _, _, rfl, rfl, v, w, q, (C.r97 (z := some (x + 1))).X, fun h => absurd h (by decide), fun _ => ?_⟩
    intro I2 q2
    have C2 := ((C.same h').r97 (z := some (x + 1))).tp0
    rw [← q2] at C2
    have vn := C2.vn
    refine ⟨fun h => absurd h (by decide), fun _ => ⟨fun _ => ?_, fun h => absurd rfl h⟩⟩
    refine q_keepLaw (kc := 1) (ks := 26) (c := cc.length) (k := lw.1) C2.X vn.1 vn.2.1 vn.2.2.1 vn.2.2.2 C2.gz (by rw [q2, zU_off (by omega)]; exact e1) cl C2.cl.2.1 (by omega) ?_
    intro I3 J3 R3 K3 f1 f2 f3 f4 f5 f6 f7 f8 f9 f10 f11 f12
    have C3 := C2.lawK (by omega) (by omega) f1 f2 (fun j hj => by rw [f3 j hj, q2, zU_off (by omega)]; exact e2 j hj) f5 f6 f7 f8 f9 f10 f11 f12
    exact ⟨_, _, _, _, _, _, rfl, rfl, _, _, _, C3.X, hQ I3 J3 R3 K3 (n + 3) _ _ _ _ _ _ _ _ C3 (by omega) f9 (fun b b1 b2 => ⟨by funext j; rw [f1 b j (by omega) (by omega), q2, zU_off (by omega), C.mid h' b b1 b2], f4 b (by omega), by funext j; rw [f5 b j (by omega) (by omega), zU_off (by omega)]⟩)⟩
  · rw [hv] at h; injection h
theorem x_text2_y {z : Nat × (Nat → Int32)} (C : CIv G I R K n x m v w q nx lo M lk sq vl st tp lw sp ap sg B) (hl : sp.1 ≠ 4) (hv : (spR tp).2 = some z) : XT G (d + 10) [.ref x, .int (nI 2)] I J R K n x m (nI sp.1) vl st (0, tp.2) lw (spK sp z) ap sg B := by
  intro Q hQ
  have g := C.gm
  have g1 := g.1
  have g2 := g.2.1
  have g5 := g.2.2.2.2.1
  have l4 := C.cp.1
  refine zC.of (by decide) (Nat.le_of_ble_eq_true rfl) ?_
  refine wX11_textN (kc := 0) (ks := 0) x v w q C.X _ ?_
  refine c_room C (k := 2) (by omega) ?_
  refine ⟨_, _, rfl, rfl, ?_⟩
  rw [if_neg (by omega)]
  refine ⟨fun h => absurd h (by decide), fun _ => ?_⟩
  refine c_reads2 C (fun I' z2 h h' ss => ?_) (fun I' h => ?_)
  · obtain rfl : z = z2 := by rw [hv] at h; injection h
    refine ⟨_, _, _, rfl, rfl, v, w, q, C.X, fun h => absurd h (by decide), fun _ => ?_⟩
    intro I2 q2
    have C2 := (C.same h').tp0
    rw [← q2] at C2
    have vn := C2.vn
    refine ⟨fun h => absurd h (by decide), fun _ => ⟨fun h => absurd h (by decide), fun _ => ?_⟩⟩
    refine q_keepSpring (kc := 0) (ks := 248) (k := sp.1) C2.X vn.1 vn.2.1 vn.2.2.1 vn.2.2.2 C2.gz C2.cp.2.1 (by omega) ?_
    intro I3 J3 R3 K3 f1 f2 f4 f5 f6 f7 f9 f10
    have C3 := C2.sprK (z := z) (by omega) (ss.same (fun b b1 b2 => by rw [q2, zU_off (by omega)])) f1 f2 f5 f6 f7 f9 f10
    exact ⟨_, _, _, _, _, _, rfl, rfl, _, _, _, C3.X, hQ I3 J3 R3 K3 (n + 4) _ _ _ _ _ _ _ _ C3 (by omega) f9 (fun b b1 b2 => ⟨by funext j; rw [f1 b j (by omega) (by omega), q2, zU_off (by omega), C.mid h' b b1 b2], f4 b (by omega), by funext j; rw [f5 b j (by omega) (by omega) (by omega)]⟩)⟩
  · rw [hv] at h; injection h
end
