/-! THE FACE: what acts change; the tape -/
section
variable {G : zG} {I I' : Nat → Nat → Int32} {J J' : Nat → Nat → Int64} {R R' : Nat → Nat → Option Nat} {K : Nat → Nat × Nat} {n x m v w q nx nx' lo lo' M M' t t' c c' : Nat} {lk sq : Nat → Nat} {tl : Nat → Nat} {tt : Nat → Nat → Nat} {vl : Vt} {st st' : Stt} {tp tp' : Tpt} {lw : Lwt} {sp : Spt} {ap : Nat} {sg : Sgt} {B B' : Nat}
theorem CIv.acts (C : CIv G I R K n x m v w q nx lo M lk sq vl st tp lw sp ap sg B) (h : ∀ b k, ¬ scr x w q nx lk lw.1 b k → ¬ (x + 12 ≤ b ∧ b < x + 19) → ¬ (x + 28 ≤ b ∧ b < x + 80) → I' b k = I b k) (c1 : CS I' (x + 12) st'.1) (c2 : okSt vl st' B') (c3 : CHr I' (x + 28) st'.2.2.1 nx') (c4 : CHd st'.1 st'.2.2.1 lo' M') (c5 : CLg I' (x + 28) (st'.1 49) lo' M' st'.2.1) (c6 : cIm I' (x + 28) st'.2.2.2) : CIv G I' R K n x m v w q nx' lo' M' lk sq vl st' tp lw sp ap sg B' := by
  have vw := C.vw
  obtain ⟨g1, g2, g3, g4, g5, g6, g7, g8, g9, g10⟩ := C.gm
  have hl : ∀ j, j < lw.1 → x + 112 ≤ lk j := fun j hj => by have := g3 j hj; omega
  have hq : x + 108 ≤ q := by omega
  have hs : ∀ b k, b < x + 101 → ¬ (w ≤ b ∧ b < w + 7) → ¬ (b = x + 1 ∧ k = 2) → b ≠ x + 11 → ¬ (x + 12 ≤ b ∧ b < x + 80) → b ≠ x + 80 → b ≠ x + 81 → ¬ (x + 86 ≤ b ∧ b < x + 99) → I' b k = I b k := fun b k a1 a2 a3 a4 a5 a6 a7 a8 => by
    have hnx := C.hr.2.2.1
    exact h b k (scr.sm a1 a2 hq hl a3 a4 (by omega) (by omega) (by omega) a6 a7 a8) (by omega) (by omega)
  refine ⟨C.X, C.vw, C.gm, ?_, ?_, C.okv, c1, c2, c3, c4, c5, c6, ?_, ?_, ?_, ?_⟩
  · exact C.tp.same (hs _ _ (by omega) (by omega) (by omega) (by omega) (by omega) (by omega) (by omega) (by omega)) (funext fun k => hs _ _ (by omega) (by omega) (by omega) (by omega) (by omega) (by omega) (by omega) (by omega))
  · refine C.cv.same (fun b b1 b2 => funext fun k => ?_)
    refine h b k ?_ (by omega) (by omega)
    have hnx := C.hr.2.2.1
    rintro (h | h | h | h | h | h | h | h | h | h | ⟨j, hj, h⟩)
    all_goals first | omega | (have := hl j hj; omega)
  · refine C.cl.same (fun k => hs _ _ (by omega) (by omega) (by omega) (by omega) (by omega) (by omega) (by omega) (by omega)) (fun k hk => funext fun i => ?_)
    have a1 := g3 k hk
    have a2 := g9 k hk
    have hnx := C.hr.2.2.1
    refine h _ _ ?_ (by omega) (by omega)
    rintro (h | h | h | h | h | h | h | h | h | h | ⟨j, hj, h⟩)
    all_goals first | omega | (have e : k ≠ j := (fun e => (by subst e; omega)); have := g10 k j hk hj e; omega)
  · refine C.cp.same (fun k => hs _ _ (by omega) (by omega) (by omega) (by omega) (by omega) (by omega) (by omega) (by omega)) (fun k b hk b1 b2 => funext fun i => ?_)
    have a1 := g4 k hk
    have a2 := g7 k hk
    have hnx := C.hr.2.2.1
    refine h _ _ ?_ (by omega) (by omega)
    rintro (h | h | h | h | h | h | h | h | h | h | ⟨j, hj, h⟩)
    all_goals first | omega | (have := g8 k j hk hj; omega)
  · exact C.cg.same (fun b b1 b2 => funext fun k => hs _ _ (by omega) (by omega) (by omega) (by omega) (by omega) (by omega) (by omega) (by omega))
  · rw [hs x 16 (by omega) (by omega) (by omega) (by omega) (by omega) (by omega) (by omega) (by omega)]
    exact C.ap
theorem MIv.acts (C : MIv G I J R K n m t c tl tt vl st tp lw sp ap sg B) (S' : hMod G R' K n m t' c') (h : ∀ b k, ¬ scm m b k → ¬ (b = m ∧ (k = 39 ∨ k = 47)) → b ≠ m + 13 → b ≠ m + 17 → b ≠ m + 20 → I' b k = I b k) (L' : LMo I' J' m lw.1 tl tt lw.2.1) (c1 : mS I' m st') (c2 : okSt vl st' B') : MIv G I' J' R' K n m t' c' tl tt vl st' tp lw sp ap sg B' := by
  have hm : ∀ k, (k ≠ 0 ∧ ¬ (8 ≤ k ∧ k ≤ 17) ∧ k ≠ 28 ∧ k ≠ 29 ∧ k ≠ 31 ∧ k ≠ 41 ∧ k ≠ 42 ∧ k ≠ 39 ∧ k ≠ 47) → I' m k = I m k := fun k hk => h m k (by unfold scm; omega) (by omega) (by omega) (by omega) (by omega)
  have hb : ∀ b, m < b → b < m + 21 → b ≠ m + 4 → b ≠ m + 6 → b ≠ m + 8 → b ≠ m + 10 → b ≠ m + 11 → b ≠ m + 12 → b ≠ m + 14 → b ≠ m + 16 → b ≠ m + 19 → b ≠ m + 13 → b ≠ m + 17 → b ≠ m + 20 → I' b = I b := fun b a1 a2 a3 a4 a5 a6 a7 a8 a9 a10 a11 a12 a13 a14 => funext fun k => h b k (by unfold scm; omega) (by omega) a12 a13 a14
  have hp : ∀ k, k < 192 → I' (m + 11) k = I (m + 11) k := fun k hk => h _ _ (by unfold scm; omega) (by omega) (by omega) (by omega) (by omega)
  have hq : ∀ k, k < 4 → I' (m + 12) k = I (m + 12) k := fun k hk => h _ _ (by unfold scm; omega) (by omega) (by omega) (by omega) (by omega)
  refine ⟨S', ?_, C.okv_, c1, c2, ?_, L', ?_, ?_, ?_, ?_⟩
  · unfold mV VM
    rw [hm 26 (by omega), hm 27 (by omega), hb (m + 7) (by omega) (by omega) (by omega) (by omega) (by omega) (by omega) (by omega) (by omega) (by omega) (by omega) (by omega) (by omega) (by omega) (by omega), hb (m + 9) (by omega) (by omega) (by omega) (by omega) (by omega) (by omega) (by omega) (by omega) (by omega) (by omega) (by omega) (by omega) (by omega) (by omega), hb (m + 5) (by omega) (by omega) (by omega) (by omega) (by omega) (by omega) (by omega) (by omega) (by omega) (by omega) (by omega) (by omega) (by omega) (by omega)]
    exact C.v_
  · unfold mT
    rw [hm 6 (by omega), hb (m + 1) (by omega) (by omega) (by omega) (by omega) (by omega) (by omega) (by omega) (by omega) (by omega) (by omega) (by omega) (by omega) (by omega) (by omega)]
    exact C.tp_
  · unfold mHl
    rw [hm 34 (by omega)]
    exact C.hl_
  · obtain ⟨c1, c2, c3⟩ := C.p_
    refine ⟨c1, by rw [hm 30 (by omega)]; exact c2, fun k hk => ?_⟩
    obtain ⟨a1, a2, a3⟩ := c3 k hk
    refine ⟨a1, by rw [hq k (by omega)]; exact a2, fun i hi => ?_⟩
    rw [hp _ (by omega), hp _ (by omega), hp _ (by omega)]
    exact a3 i hi
  · unfold mG
    rw [hm 44 (by omega), hb (m + 18) (by omega) (by omega) (by omega) (by omega) (by omega) (by omega) (by omega) (by omega) (by omega) (by omega) (by omega) (by omega) (by omega) (by omega)]
    exact C.g_
  · rw [hm 35 (by omega)]
    exact C.ap_
theorem CIv.tape (C : CIv G I R K n x m v w q nx lo M lk sq vl st tp lw sp ap sg B) (h : ∀ b k, ¬ (b = x + 1 ∧ (k = 1 ∨ k = 2)) → b ≠ x + 2 → I' b k = I b k) (c1 : TP I' (x + 1) tp'.1 tp'.2) : CIv G I' R K n x m v w q nx lo M lk sq vl st tp' lw sp ap sg B := by
  have vw := C.vw
  obtain ⟨g1, g2, g3, g4, g5, g6, g7, g8, g9, g10⟩ := C.gm
  have hx : ∀ b, b ≠ x + 1 → b ≠ x + 2 → I' b = I b := fun b h1 h2 => funext fun k => h b k (by omega) h2
  refine ⟨C.X, C.vw, C.gm, c1, ?_, C.okv, ?_, C.oks, ?_, C.hd, ?_, ?_, ?_, ?_, ?_, ?_⟩
  · exact C.cv.same (fun b b1 b2 => hx b (by omega) (by omega))
  · exact C.cs.same11 (fun k hk => by rw [hx _ (by omega) (by omega)]) (fun b b1 b2 => hx b (by omega) (by omega))
  · exact C.hr.same (hx _ (by omega) (by omega)) (fun j hj hne => hx _ (by omega) (by omega))
  · exact C.lg.same (fun b b1 b2 => hx b (by omega) (by omega))
  · exact C.im.same (by rw [hx _ (by omega) (by omega)]) (fun b b1 b2 => hx b (by omega) (by omega))
  · exact C.cl.same (fun k => by rw [hx _ (by omega) (by omega)]) (fun k hk => hx _ (by have := g3 k hk; omega) (by have := g3 k hk; omega))
  · exact C.cp.same (fun k => by rw [hx _ (by omega) (by omega)]) (fun k b hk b1 b2 => hx _ (by have := g4 k hk; omega) (by have := g4 k hk; omega))
  · exact C.cg.same (fun b b1 b2 => hx b (by omega) (by omega))
  · rw [hx x (by omega) (by omega)]
    exact C.ap
theorem MIv.tape (C : MIv G I J R K n m t c tl tt vl st tp lw sp ap sg B) (h : ∀ b k, ¬ (b = m ∧ k = 6) → b ≠ m + 1 → I' b k = I b k) (c1 : mT I' m tp') : MIv G I' J R K n m t c tl tt vl st tp' lw sp ap sg B := by
  have hb : ∀ b, b ≠ m → b ≠ m + 1 → I' b = I b := fun b h1 h2 => funext fun k => h b k (by omega) h2
  have hm : ∀ k, k ≠ 6 → I' m k = I m k := fun k hk => h m k (by omega) (by omega)
  refine ⟨C.S_, ?_, C.okv_, ?_, C.oks_, c1, ?_, ?_, ?_, ?_, ?_⟩
  · unfold mV VM
    rw [hm 26 (by omega), hm 27 (by omega), hb _ (by omega) (by omega), hb _ (by omega) (by omega), hb _ (by omega) (by omega)]
    exact C.v_
  · unfold mS
    rw [hm 39 (by omega), hm 47 (by omega), hb _ (by omega) (by omega), hb _ (by omega) (by omega), hb _ (by omega) (by omega)]
    exact C.s_
  · unfold LMo
    rw [hm 7 (by omega), hb _ (by omega) (by omega), hb _ (by omega) (by omega), hb _ (by omega) (by omega), hb _ (by omega) (by omega)]
    exact C.lm_
  · unfold mHl
    rw [hm 34 (by omega)]
    exact C.hl_
  · unfold mP
    rw [hm 30 (by omega), hb _ (by omega) (by omega), hb _ (by omega) (by omega)]
    exact C.p_
  · unfold mG
    rw [hm 44 (by omega), hb _ (by omega) (by omega)]
    exact C.g_
  · rw [hm 35 (by omega)]
    exact C.ap_
end
section
variable {G : zG} {d : Nat} {I : Nat → Nat → Int32} {J : Nat → Nat → Int64} {R : Nat → Nat → Option Nat} {K : Nat → Nat × Nat} {n : Nat} {x m v w q nx lo M t c : Nat} {lk sq : Nat → Nat} {tl : Nat → Nat} {tt : Nat → Nat → Nat} {vl : Vt} {st : Stt} {tp : Tpt} {lw : Lwt} {sp : Spt} {ap : Nat} {sg : Sgt} {B : Nat} {p : Int32}
theorem x_end_y (C : CIv G I R K n x m v w q nx lo M lk sq vl st tp lw sp ap sg B) {k : Nat} (hk : k ≤ tp.1) : XC G (d + 1) mX11_end [.ref x, .int (nI k)] I J R K n x m 1 vl st (k, tp.2) lw sp ap sg B := by
  intro Q hQ
  have V := C.tp
  have hl := V.1
  have g := C.gm
  refine zC.of (by decide) (Nat.le_of_ble_eq_true rfl) ?_
  refine wX11_end_0 x v w q C.X _ ?_
  rw [V.2.1]
  refine ⟨fun h => absurd h (nI_pos (by omega)), fun _ => ⟨fun _ => ?_, fun h => absurd ((tk_le (by omega) (by omega)).mpr hk) h⟩⟩
  rintro _ rfl
  refine hQ _ v w q nx lo M lk sq (C.tape (fun b j h1 h2 => zU_ne (by omega)) ⟨by simp only; omega, zU_self .., fun j hj => ?_⟩) (fun b b1 b2 => zU_off (by have := g.1; omega))
  rw [zU_off (by omega)]
  exact V.2.2 j (by simp only at hj; omega)
theorem x_end_n (C : CIv G I R K n x m v w q nx lo M lk sq vl st tp lw sp ap sg B) (hn : ∀ k : Nat, p = nI k → k < 2147483648 → tp.1 < k) : XC G (d + 1) mX11_end [.ref x, .int p] I J R K n x m 0 vl st tp lw sp ap sg B := by
  intro Q hQ
  replace hQ := hQ I v w q nx lo M lk sq C (fun _ _ _ => rfl)
  have V := C.tp
  have hl := V.1
  refine zC.of (by decide) (Nat.le_of_ble_eq_true rfl) ?_
  refine wX11_end_0 x v w q C.X _ ?_
  rw [V.2.1]
  refine ⟨fun _ => hQ, fun h => ⟨fun h2 => ?_, fun _ => hQ⟩⟩
  obtain ⟨k, hk, rfl⟩ := nI_of h
  have := hn k rfl hk
  rw [tk_le (by omega) (by omega)] at h2
  omega
theorem y_end_y (C : MIv G I J R K n m t c tl tt vl st tp lw sp ap sg B) {k : Nat} (hk : k ≤ tp.1) : YC G (d + 1) mX12_end [.ref m, .int (nI k)] I J R K n m t c tl tt 1 vl st (k, tp.2) lw sp ap sg B := by
  intro Q hQ
  obtain ⟨M1, f1⟩ := C.z0 (y := 0)
  have V := M1.tp_
  have hl := V.1
  refine zC.of (by decide) (Nat.le_of_ble_eq_true rfl) ?_
  refine wX12_end_0 m t c C.S_ _ ?_
  rintro _ rfl
  rw [V.2.1]
  refine ⟨fun h => absurd h (nI_pos (by omega)), fun _ => ⟨fun _ => ?_, fun h => absurd ((tk_le (by omega) (by omega)).mpr hk) h⟩⟩
  rintro _ rfl
  refine hQ _ (M1.tape (fun b j h1 h2 => zU_ne (by omega)) ⟨by simp only; omega, zU_self .., fun j hj => ?_⟩) (fun b hb => by rw [zU_off (by omega)]; exact f1 b hb)
  rw [zU_off (by omega)]
  exact V.2.2 j (by simp only at hj; omega)
theorem y_end_n (C : MIv G I J R K n m t c tl tt vl st tp lw sp ap sg B) (hn : ∀ k : Nat, p = nI k → k < 2147483648 → tp.1 < k) : YC G (d + 1) mX12_end [.ref m, .int p] I J R K n m t c tl tt 0 vl st tp lw sp ap sg B := by
  intro Q hQ
  obtain ⟨M1, f1⟩ := C.z0 (y := 0)
  replace hQ := hQ _ M1 f1
  have V := M1.tp_
  have hl := V.1
  refine zC.of (by decide) (Nat.le_of_ble_eq_true rfl) ?_
  refine wX12_end_0 m t c C.S_ _ ?_
  rintro _ rfl
  rw [V.2.1]
  refine ⟨fun _ => hQ, fun h => ⟨fun h2 => ?_, fun _ => hQ⟩⟩
  obtain ⟨k, hk, rfl⟩ := nI_of h
  have := hn k rfl hk
  rw [tk_le (by omega) (by omega)] at h2
  omega
end
