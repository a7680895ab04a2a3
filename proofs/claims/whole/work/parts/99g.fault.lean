/-! THE FACE: fault -/
def rdA {α : Type} (a : Nat × Option α) : Int32 := match a.2 with
  | some _ => -1
  | none => nI a.1
def spR (tp : Tpt) : Nat × Option (Nat × (Nat → Int32)) := spP tp.2 tp.1 16 0 0 (fun _ => 0)
def flA (tp : Tpt) (s : Nat) : Int32 := if s = 0 then rdA (villP tp.2 tp.1) else if s = 1 then rdA (plaw tp.2 tp.1) else rdA (spR tp)
theorem X_97 {G : zG} {R R1 : Nat → Nat → Option Nat} {K : Nat → Nat × Nat} {n x v w q : Nat} (S : hX G R K n x v w q) (h : ∀ b k, ¬ (b = x + 97 ∧ k = 2) → R1 b k = R b k) (hv : v ≠ x + 97) (hw : w ≠ x + 97) (hq : q ≠ x + 97) : hX G R1 K n x v w q := by
  unfold hX hSea hSig hGam hSt hSet hTape hHis hLr0 hVil hSpr at *
  simp (disch := omega) only [h]
  exact S
section
variable {G : zG} {d : Nat} {I : Nat → Nat → Int32} {J : Nat → Nat → Int64} {R : Nat → Nat → Option Nat} {K : Nat → Nat × Nat} {n : Nat} {x m v w q nx lo M t c : Nat} {lk sq : Nat → Nat} {tl : Nat → Nat} {tt : Nat → Nat → Nat} {vl : Vt} {st : Stt} {tp : Tpt} {lw : Lwt} {sp : Spt} {ap : Nat} {sg : Sgt} {B B' : Nat} {p p2 : Int32} {T : Nat → Nat} {Q : Option Value → zH → Prop}
theorem CIv.r97 {z : Option Nat} (C : CIv G I R K n x m v w q nx lo M lk sq vl st tp lw sp ap sg B) : CIv G I (zU R (x + 97) 2 z) K n x m v w q nx lo M lk sq vl st tp lw sp ap sg B := by
  have g := C.gm
  have vw := C.vw
  have hR : ∀ b, b ≠ x + 97 → zU R (x + 97) 2 z b = R b := fun b hb => zU_off hb
  refine ⟨X_97 C.X (fun b k hb => zU_ne hb) (by omega) (by omega) (by have := g.1; have := g.2.2.2.2.1; omega), C.vw, C.gm, C.tp, C.cv, C.okv, C.cs, C.oks, C.hr, C.hd, C.lg, C.im, ?_, ?_, C.cg, C.ap⟩
  · obtain ⟨c1, c2, c3, c4⟩ := C.cl
    refine ⟨c1, c2, fun k hk => ?_, by rw [hR _ (by omega)]; exact c4⟩
    have := g.1
    have := g.2.2.1 k hk
    obtain ⟨a1, a2, a3, a4⟩ := c3 k hk
    exact ⟨by rw [hR _ (by omega)]; exact a1, Law_mono (y := x + 97) a2 (fun _ _ => rfl) (fun b _ hb => hR b hb) (Nat.le_refl _) (by omega), a3, a4⟩
  · obtain ⟨c1, c2, c3⟩ := C.cp
    refine ⟨c1, c2, fun k hk => ?_⟩
    have := g.1
    have := g.2.2.2.1 k hk
    obtain ⟨a1, a2, a3⟩ := c3 k hk
    exact ⟨by rw [hR _ (by omega)]; exact a1, Spr_mono (y := x + 97) a2 (fun _ _ => rfl) (fun b _ hb => hR b hb) (Nat.le_refl _) (by omega), a3⟩
theorem c_reads0 (C : CIv G I R K n x m v w q nx lo M lk sq vl st tp lw sp ap sg B) (h1 : ∀ I' vl', (villP tp.2 tp.1).2 = some vl' → (∀ b k, ¬ scr x w q nx lk lw.1 b k → I' b k = I b k) → cV I' w vl' → Q (some (.int 1)) (I', J, R, K, n)) (h0 : ∀ I', (villP tp.2 tp.1).2 = none → (∀ b k, ¬ scr x w q nx lk lw.1 b k → I' b k = I b k) → I' (x + 1) 2 = nI (villP tp.2 tp.1).1 → Q (some (.int 0)) (I', J, R, K, n)) : zC G (d + 9) mX11_reads 0 0 [.ref x, .int (nI 0)] (I, J, R, K, n) Q := by
  have vw := C.vw
  refine zC.of (by decide) (Nat.le_of_ble_eq_true rfl) ?_
  refine wX11_reads_0 x v w q C.X _ ?_
  refine ⟨fun _ => ?_, fun h => absurd h (by decide), fun h => absurd h (by decide), fun h => absurd rfl h⟩
  refine c_vread (X_23 C.X) (X_2 C.X) (by omega) C.tp (fun I' vl' hv F cv => ?_) (fun I' hv F e => ?_)
  · exact ⟨_, _, rfl, rfl, Or.inr rfl, h1 I' vl' hv (fun b k hb => F b k (fun h => hb (by unfold scr; omega)) (fun h => hb (by unfold scr; omega))) cv⟩
  · exact ⟨_, _, rfl, rfl, Or.inl rfl, h0 I' hv (fun b k hb => F b k (fun h => hb (by unfold scr; omega)) (fun h => hb (by unfold scr; omega))) e⟩
theorem c_reads2 (C : CIv G I R K n x m v w q nx lo M lk sq vl st tp lw sp ap sg B) (h1 : ∀ I' z, (spR tp).2 = some z → (∀ b k, ¬ scr x w q nx lk lw.1 b k → I' b k = I b k) → SS I' q z.1 z.2 → Q (some (.int 1)) (I', J, R, K, n)) (h0 : ∀ I', (spR tp).2 = none → (∀ b k, ¬ scr x w q nx lk lw.1 b k → I' b k = I b k) → I' (x + 1) 2 = nI (spR tp).1 → Q (some (.int 0)) (I', J, R, K, n)) : zC G (d + 5) mX11_reads 0 0 [.ref x, .int (nI 2)] (I, J, R, K, n) Q := by
  have g := C.gm
  have g5 := g.2.2.2.2.1
  have g1 := g.1
  refine zC.of (by decide) (Nat.le_of_ble_eq_true rfl) ?_
  refine wX11_reads_0 x v w q C.X _ ?_
  refine ⟨fun h => absurd h (by decide), fun h => absurd h (by decide), fun _ => ?_, fun _ _ h => absurd rfl h⟩
  refine c_sread (X_25 C.X) (X_2 C.X) (by omega) C.tp (fun I' z hv F cv => ?_) (fun I' hv F e => ?_)
  · exact ⟨_, _, rfl, rfl, Or.inr rfl, h1 I' z hv (fun b k hb => F b k (fun h => hb (by unfold scr; omega)) (fun h => hb (by unfold scr; omega))) cv⟩
  · exact ⟨_, _, rfl, rfl, Or.inl rfl, h0 I' hv (fun b k hb => F b k (fun h => hb (by unfold scr; omega)) (fun h => hb (by unfold scr; omega))) e⟩
theorem c_reads1 (C : CIv G I R K n x m v w q nx lo M lk sq vl st tp lw sp ap sg B) (h1 : ∀ I' cc, (plaw tp.2 tp.1).2 = some cc → (∀ b k, ¬ scr x w q nx lk lw.1 b k → I' b k = I b k) → I' (x + 97) 1 = nI cc.length → (∀ j, j < cc.length → I' (x + 98) j = cc.getD j 0) → Q (some (.int 1)) (I', J, zU R (x + 97) 2 (some (x + 1)), K, n)) (h0 : ∀ I', (plaw tp.2 tp.1).2 = none → (∀ b k, ¬ scr x w q nx lk lw.1 b k → I' b k = I b k) → I' (x + 1) 2 = nI (plaw tp.2 tp.1).1 → Q (some (.int 0)) (I', J, zU R (x + 97) 2 (some (x + 1)), K, n)) : zC G (d + 31) mX11_reads 0 0 [.ref x, .int (nI 1)] (I, J, R, K, n) Q := by
  have fr : ∀ (cs : List Int32) (y : Int32) b k, ¬ scr x w q nx lk lw.1 b k → zU (LC I (x + 97) cs) (x + 1) 2 y b k = I b k := fun cs y b k hb => by
    rw [zU_ne (fun h => hb (by unfold scr; omega)), LC_ne (fun h => hb (by unfold scr; omega)) (fun h => hb (by unfold scr; omega))]
  have C' := C.r97 (z := some (x + 1))
  refine zC.of (by decide) (Nat.le_of_ble_eq_true rfl) ?_
  refine wX11_reads_0 x v w q C.X _ ?_
  refine ⟨fun h => absurd h (by decide), fun _ => ?_, fun h => absurd h (by decide), fun _ h => absurd rfl h⟩
  refine c_lread (X_17 C.X) (X_2 C.X) (by omega) C.tp ⟨fun cc hc => ?_, fun hc cs' => ?_⟩
  · refine ⟨_, _, _, rfl, rfl, v, w, q, C'.X, Or.inr rfl, h1 _ cc hc (fr _ _) ?_ (fun j hj => ?_)⟩
    · rw [zU_off (by omega), List.nil_append]
      exact LC_l
    · rw [zU_off (by omega), List.nil_append, show x + 98 = x + 97 + 1 by omega]
      exact LC_c hj
  · exact ⟨_, _, _, rfl, rfl, v, w, q, C'.X, Or.inl rfl, h0 _ hc (fr _ _) (zU_self ..)⟩
theorem x_fault_n (C : CIv G I R K n x m v w q nx lo M lk sq vl st tp lw sp ap sg B) (hp : bad 3 p) : XD G (d + 1) mX11_fault [.ref x, .int p] I J R K n x m (-2) vl st tp lw sp ap sg B := by
  intro Q hQ
  replace hQ := hQ I J R v w q nx lo M lk sq C (fun _ _ _ => ⟨rfl, rfl, rfl⟩)
  refine zC.of (by decide) (Nat.le_of_ble_eq_true rfl) ?_
  refine wX11_fault_0 x v w q C.X _ ?_
  refine ⟨fun _ => hQ, fun h1 => ⟨fun h2 => absurd (in_of (N := 2) (by decide) h1 h2 hp) not_false, fun _ => hQ⟩⟩
theorem x_fault_y (C : CIv G I R K n x m v w q nx lo M lk sq vl st tp lw sp ap sg B) {s : Nat} (hs : s < 3) : XD G (d + 32) mX11_fault [.ref x, .int (nI s)] I J R K n x m (flA tp s) vl st tp lw sp ap sg B := by
  intro Q hQ
  have g := C.gm
  have fin : ∀ I' : Nat → Nat → Int32, (∀ b k, ¬ scr x w q nx lk lw.1 b k → I' b k = I b k) → ∀ b, m ≤ b → b < m + 21 → I' b = I b := fun I' h' => C.mid h'
  have keep : ∀ (I' : Nat → Nat → Int32) (r : Int32), (∀ b k, ¬ scr x w q nx lk lw.1 b k → I' b k = I b k) → r = flA tp s → ∃ u6 u7 u8 : Nat, hX G R K n x u6 u7 u8 ∧ Q (some (.int r)) (I', J, R, K, n) := fun I' r h' e => ⟨v, w, q, C.X, qI e.symm (hQ I' J R v w q nx lo M lk sq (C.same h') (fun b b1 b2 => ⟨fin I' h' b b1 b2, rfl, rfl⟩))⟩
  have keep1 : ∀ (I' : Nat → Nat → Int32) (r : Int32), (∀ b k, ¬ scr x w q nx lk lw.1 b k → I' b k = I b k) → r = flA tp s → ∃ u6 u7 u8 : Nat, hX G (zU R (x + 97) 2 (some (x + 1))) K n x u6 u7 u8 ∧ Q (some (.int r)) (I', J, zU R (x + 97) 2 (some (x + 1)), K, n) := fun I' r h' e => ⟨v, w, q, (C.r97 (z := some (x + 1))).X, qI e.symm (hQ I' J _ v w q nx lo M lk sq ((C.same h').r97) (fun b b1 b2 => ⟨fin I' h' b b1 b2, rfl, zU_off (by have := g.1; omega)⟩))⟩
  refine zC.of (by decide) (Nat.le_of_ble_eq_true rfl) ?_
  refine wX11_fault_0 x v w q C.X _ ?_
  refine ⟨fun h => absurd h (nI_pos (by omega)), fun _ => ⟨fun _ => ?_, fun h => absurd ((tk_le (b := 2) (by omega) (by omega)).mpr (by omega)) h⟩⟩
  have : s = 0 ∨ s = 1 ∨ s = 2 := by omega
  rcases this with rfl | rfl | rfl
  · refine c_reads0 C (fun I' vl' hv h' _ => ?_) (fun I' hv h' e => ?_)
    · refine ⟨_, _, _, rfl, rfl, ?_⟩
      rw [if_neg (by decide)]
      refine keep I' _ h' ?_
      show _ = rdA (villP tp.2 tp.1)
      unfold rdA
      rw [hv]
    · refine ⟨_, _, _, rfl, rfl, ?_⟩
      rw [if_pos rfl, e]
      refine keep I' _ h' ?_
      show _ = rdA (villP tp.2 tp.1)
      unfold rdA
      rw [hv]
  · refine c_reads1 C (fun I' cc hv h' _ _ => ?_) (fun I' hv h' e => ?_)
    · refine ⟨_, _, _, rfl, rfl, ?_⟩
      rw [if_neg (by decide)]
      refine keep1 I' _ h' ?_
      show _ = rdA (plaw tp.2 tp.1)
      unfold rdA
      rw [hv]
    · refine ⟨_, _, _, rfl, rfl, ?_⟩
      rw [if_pos rfl, e]
      refine keep1 I' _ h' ?_
      show _ = rdA (plaw tp.2 tp.1)
      unfold rdA
      rw [hv]
  · refine c_reads2 C (fun I' z hv h' _ => ?_) (fun I' hv h' e => ?_)
    · refine ⟨_, _, _, rfl, rfl, ?_⟩
      rw [if_neg (by decide)]
      refine keep I' _ h' ?_
      show _ = rdA (spR tp)
      unfold rdA
      rw [hv]
    · refine ⟨_, _, _, rfl, rfl, ?_⟩
      rw [if_pos rfl, e]
      refine keep I' _ h' ?_
      show _ = rdA (spR tp)
      unfold rdA
      rw [hv]
/-- nothing changed but what the model's readers change -/
def redM (m : Nat) (I I' : Nat → Nat → Int32) : Prop := ∀ b k, ¬ (b = m ∧ (k = 0 ∨ (8 ≤ k ∧ k ≤ 17) ∨ k = 28 ∨ k = 29 ∨ k = 31)) → b ≠ m + 6 → b ≠ m + 8 → b ≠ m + 10 → ¬ (b = m + 11 ∧ 192 ≤ k) → ¬ (b = m + 12 ∧ k = 4) → I' b k = I b k
theorem MIv.red {I' : Nat → Nat → Int32} {R' : Nat → Nat → Option Nat} {t' c' : Nat} (C : MIv G I J R K n m t c tl tt vl st tp lw sp ap sg B) (S' : hMod G R' K n m t' c') (h : redM m I I') : MIv G I' J R' K n m t' c' tl tt vl st tp lw sp ap sg B := by
  have C' : MIv G I J R' K n m t' c' tl tt vl st tp lw sp ap sg B := ⟨S', C.2⟩
  refine C'.same S' (fun b k hb => h b k (fun e => hb (by unfold scm; omega)) (fun e => hb (by unfold scm; omega)) (fun e => hb (by unfold scm; omega)) (fun e => hb (by unfold scm; omega)) (fun e => hb (by unfold scm; omega)) (fun e => hb (by unfold scm; omega))) ?_
  have hb : ∀ b, b ≠ m → b ≠ m + 6 → b ≠ m + 8 → b ≠ m + 10 → b ≠ m + 11 → b ≠ m + 12 → I' b = I b := fun b a1 a2 a3 a4 a5 a6 => funext fun k => h b k (by omega) a2 a3 a4 (by omega) (by omega)
  obtain ⟨l1, l2, l3, l4, l5⟩ := C.lm_
  unfold LMo
  rw [h m 7 (by omega) (by omega) (by omega) (by omega) (by omega) (by omega), hb (m + 3) (by omega) (by omega) (by omega) (by omega) (by omega) (by omega), hb (m + 2) (by omega) (by omega) (by omega) (by omega) (by omega) (by omega), hb (m + 4) (by omega) (by omega) (by omega) (by omega) (by omega) (by omega), hb (m + 16) (by omega) (by omega) (by omega) (by omega) (by omega) (by omega)]
  exact ⟨l1, l2, l3, l4, l5⟩
theorem redM.out {I' : Nat → Nat → Int32} (h : redM m I I') : ∀ b, b < m ∨ m + 21 ≤ b → I' b = I b := fun b hb => funext fun k => h b k (by omega) (by omega) (by omega) (by omega) (by omega) (by omega)
theorem redM.z0 {I' : Nat → Nat → Int32} {y : Int32} (h : redM m (zU I m 0 y) I') : redM m I I' := fun b k a1 a2 a3 a4 a5 a6 => by rw [h b k a1 a2 a3 a4 a5 a6, zU_ne (by omega)]
theorem MH_red {A : Nat → Nat → Int32} {ln pp : Nat} {f e : Int32} (h : ∀ b k, ¬ (b = m ∧ (k = 0 ∨ (8 ≤ k ∧ k ≤ 17) ∨ k = 28 ∨ k = 29 ∨ k = 31)) → b ≠ m + 6 → b ≠ m + 8 → b ≠ m + 10 → ¬ (b = m + 11 ∧ 192 ≤ k) → ¬ (b = m + 12 ∧ k = 4) → A b k = stI I m ln b k) : redM m I (MH A m pp f e) := by
  intro b k a1 a2 a3 a4 a5 a6
  have e1 : MH A m pp f e b k = A b k := by
    by_cases hb : b = m
    · subst hb; exact MH_m (by omega)
    · rw [MH_b hb]
  rw [e1, h b k a1 a2 a3 a4 a5 a6]
  unfold stI
  rw [zU_ne (by omega), zU_ne (by omega)]
theorem c_mfault0 (C : MIv G I J R K n m t c tl tt vl st tp lw sp ap sg B) (h1 : ∀ I' R' vl' rl, (villP tp.2 tp.1).2 = some vl' → redM m I I' → hMod G R' K n m (m + 1) 240 → (∀ b, b ≠ m → R' b = R b) → mD I' m (vl', rl) → Q (some (.int (-1))) (I', J, R', K, n)) (h0 : ∀ I' R', (villP tp.2 tp.1).2 = none → redM m I I' → hMod G R' K n m (m + 1) 240 → (∀ b, b ≠ m → R' b = R b) → Q (some (.int (nI (villP tp.2 tp.1).1))) (I', J, R', K, n)) : zC G (d + 9) mX12_fault 0 0 [.ref m, .int (nI 0)] (I, J, R, K, n) Q := by
  obtain ⟨M1, f1⟩ := C.z0 (y := 0)
  refine zC.of (by decide) (Nat.le_of_ble_eq_true rfl) ?_
  refine wX12_fault_0 m t c C.S_ _ ?_
  rintro _ rfl
  refine c_in_y (N := 3) (by decide) (by decide) (by omega) ?_
  refine ⟨_, _, rfl, rfl, ?_⟩
  refine ⟨fun h => absurd h (by decide), fun _ => ⟨fun _ => ?_, fun h => absurd rfl h⟩⟩
  have SR := hMod_tape M1.S_
  refine c_readVillage (ln := tp.1) (tx := tp.2) M1.S_ M1.tp_ (fun I' vl' rl p' hv F D => ?_) (fun I' p' hv F => ?_)
  · refine ⟨_, _, _, rfl, rfl, _, _, SR, fun h => absurd h (by decide), fun _ => ⟨fun h => absurd h (by decide), fun _ => ?_⟩⟩
    rw [MH_at.2.1]
    refine h1 _ _ vl' rl hv (MH_red (fun b k a1 a2 a3 a4 a5 a6 => F b k (by omega) a2 a3 a4)).z0 SR (fun b hb => zU_off hb) ?_
    obtain ⟨d1, d2, d3, d4, d5, d6, d7⟩ := D
    refine ⟨by rw [MH_m (by omega)]; exact d1, by rw [MH_m (by omega)]; exact d2, by rw [MH_m (by omega)]; exact d3, by rw [MH_b (by omega)]; exact d4, by rw [MH_b (by omega)]; exact d5, by rw [MH_b (by omega)]; exact d6, by rw [MH_b (by omega)]; exact d7⟩
  · refine ⟨_, _, _, rfl, rfl, _, _, SR, fun h => absurd h (by decide), fun _ => ⟨fun h => absurd h (by decide), fun _ => ?_⟩⟩
    rw [MH_at.2.1]
    exact h0 _ _ hv (MH_red (fun b k a1 a2 a3 a4 a5 a6 => F b k (by omega) a2 a3 a4)).z0 SR (fun b hb => zU_off hb)
theorem c_mfault2 (C : MIv G I J R K n m t c tl tt vl st tp lw sp ap sg B) (h1 : ∀ I' R' z, (spR tp).2 = some z → redM m I I' → hMod G R' K n m (m + 1) 240 → (∀ b, b ≠ m → R' b = R b) → z.1 ≤ 16 → I' (m + 12) 4 = nI z.1 → (∀ j, j < z.1 → I' (m + 11) (192 + 3 * j) = z.2 (3 * j) ∧ I' (m + 11) (192 + 3 * j + 1) = z.2 (3 * j + 1) ∧ I' (m + 11) (192 + 3 * j + 2) = z.2 (3 * j + 2) ∧ (z.2 (3 * j) = 0 ∨ z.2 (3 * j) = 1 ∨ z.2 (3 * j) = 2 ∨ z.2 (3 * j) = 3)) → Q (some (.int (-1))) (I', J, R', K, n)) (h0 : ∀ I' R', (spR tp).2 = none → redM m I I' → hMod G R' K n m (m + 1) 240 → (∀ b, b ≠ m → R' b = R b) → Q (some (.int (nI (spR tp).1))) (I', J, R', K, n)) : zC G (d + 8) mX12_fault 0 0 [.ref m, .int (nI 2)] (I, J, R, K, n) Q := by
  obtain ⟨M1, f1⟩ := C.z0 (y := 0)
  refine zC.of (by decide) (Nat.le_of_ble_eq_true rfl) ?_
  refine wX12_fault_0 m t c C.S_ _ ?_
  rintro _ rfl
  refine c_in_y (N := 3) (by decide) (by decide) (by omega) ?_
  refine ⟨_, _, rfl, rfl, ?_⟩
  refine ⟨fun h => absurd h (by decide), fun _ => ⟨fun h => absurd h (by decide), fun _ => ⟨fun h => absurd h (by decide), fun _ => ⟨fun _ => ?_, fun h => absurd rfl h⟩⟩⟩⟩
  have SR := hMod_tape M1.S_
  refine c_readPlan (ln := tp.1) (tx := tp.2) M1.S_ M1.tp_ (fun I' z p' hv F z1 z2 z3 => ?_) (fun I' p' hv F => ?_)
  · refine ⟨_, _, _, rfl, rfl, _, _, SR, ?_⟩
    rw [MH_at.2.1]
    exact h1 _ _ z hv (MH_red (fun b k a1 a2 a3 a4 a5 a6 => F b k a5 a6)).z0 SR (fun b hb => zU_off hb) z1 (by rw [MH_b (by omega)]; exact z2) (fun j hj => by rw [MH_b (by omega)]; exact z3 j hj)
  · refine ⟨_, _, _, rfl, rfl, _, _, SR, ?_⟩
    rw [MH_at.2.1]
    exact h0 _ _ hv (MH_red (fun b k a1 a2 a3 a4 a5 a6 => F b k a5 a6)).z0 SR (fun b hb => zU_off hb)
theorem c_mfault1 (C : MIv G I J R K n m t c tl tt vl st tp lw sp ap sg B) (h1 : ∀ I' R' cc, (plaw tp.2 tp.1).2 = some cc → redM m I I' → hMod G R' K n m (m + 1) 240 → (∀ b, b ≠ m → R' b = R b) → Q (some (.int (-1))) (I', J, R', K, n)) (h0 : ∀ I' R', (plaw tp.2 tp.1).2 = none → redM m I I' → hMod G R' K n m (m + 1) 240 → (∀ b, b ≠ m → R' b = R b) → Q (some (.int (nI (plaw tp.2 tp.1).1))) (I', J, R', K, n)) : zC G (d + 33) mX12_fault 0 0 [.ref m, .int (nI 1)] (I, J, R, K, n) Q := by
  obtain ⟨M1, f1⟩ := C.z0 (y := 0)
  refine zC.of (by decide) (Nat.le_of_ble_eq_true rfl) ?_
  refine wX12_fault_0 m t c C.S_ _ ?_
  rintro _ rfl
  refine c_in_y (N := 3) (by decide) (by decide) (by omega) ?_
  refine ⟨_, _, rfl, rfl, ?_⟩
  refine ⟨fun h => absurd h (by decide), fun _ => ⟨fun h => absurd h (by decide), fun _ => ⟨fun _ => ?_, fun h => absurd rfl h⟩⟩⟩
  have SR := hMod_tape M1.S_
  have fr : ∀ (o : Option Int32) (p' : Nat) (f e : Int32), redM m I (MH (HO (IB (zU I m 0 0) m (nI 0) (nI tp.1)) m o) m p' f e) := by
    intro o p' f e b k a1 a2 a3 a4 a5 a6
    by_cases hb : b = m
    · subst hb
      rw [MH_m (by omega), HO_m (by omega) (by omega), IB_m (by omega), zU_ne (by omega)]
    · rw [MH_b hb, HO_b hb, IB_b hb, zU_off hb]
  rw [M1.tp_.2.1]
  refine c_goThrough (b := m + 1) (cb := 240) (bg := 0) (tx := tp.2) M1.S_ (Mod_2 M1.S_) (by omega) M1.tp_.1 (by have := M1.tp_.1; omega) (by omega) (fun k hk => by rw [Nat.zero_add]; exact M1.tp_.2.2 k hk) rfl M1.lm_.2.2.2.1 (fun cc q o p' hq ho => ?_) (fun q o p' e' hq => ?_)
  · refine ⟨_, _, _, rfl, rfl, _, _, SR, fun h => absurd h (by decide), fun _ => ?_⟩
    rw [MH_at.2.1]
    exact h1 _ _ cc (by rw [hq]) (fr o p' _ _) SR (fun b hb => zU_off hb)
  · refine ⟨_, _, _, rfl, rfl, _, _, SR, fun h => absurd h (by decide), fun _ => ?_⟩
    rw [MH_at.2.1]
    have := h0 (MH (HO (IB (zU I m 0 0) m (nI 0) (nI tp.1)) m o) m p' (nI q) e') (zU R m 5 (some (m + 1))) (by rw [hq]) (fr o p' _ _) SR (fun b hb => zU_off hb)
    rw [hq] at this
    exact this
theorem y_fault_n (C : MIv G I J R K n m t c tl tt vl st tp lw sp ap sg B) (hp : bad 3 p) : YL G (d + 2) mX12_fault [.ref m, .int p] I J R K n m tl tt (-2) vl st tp lw sp ap sg B := by
  intro Q hQ
  obtain ⟨M1, f1⟩ := C.z0 (y := 0)
  replace hQ := hQ _ J R t c M1 (fun b hb => ⟨f1 b hb, rfl⟩) (fun _ _ => rfl)
  refine zC.of (by decide) (Nat.le_of_ble_eq_true rfl) ?_
  refine wX12_fault_0 m t c C.S_ _ ?_
  rintro _ rfl
  refine c_in_n (N := 3) (by decide) (by decide) hp ?_
  refine ⟨_, _, rfl, rfl, ?_⟩
  exact ⟨fun _ => hQ, fun h => absurd rfl h⟩
theorem y_fault_y (C : MIv G I J R K n m t c tl tt vl st tp lw sp ap sg B) {s : Nat} (hs : s < 3) : YL G (d + 33) mX12_fault [.ref m, .int (nI s)] I J R K n m tl tt (flA tp s) vl st tp lw sp ap sg B := by
  intro Q hQ
  have fin : ∀ (I' : Nat → Nat → Int32) (R' : Nat → Nat → Option Nat) (r : Int32), redM m I I' → hMod G R' K n m (m + 1) 240 → (∀ b, b ≠ m → R' b = R b) → r = flA tp s → Q (some (.int r)) (I', J, R', K, n) := fun I' R' r F S' hR e => qI e.symm (hQ I' J R' (m + 1) 240 (C.red S' F) (fun b hb => ⟨F.out b hb, rfl⟩) hR)
  have : s = 0 ∨ s = 1 ∨ s = 2 := by omega
  rcases this with rfl | rfl | rfl
  · refine c_mfault0 C (fun I' R' vl' rl hv F S' hR _ => fin I' R' _ F S' hR ?_) (fun I' R' hv F S' hR => fin I' R' _ F S' hR ?_)
    · show _ = rdA (villP tp.2 tp.1)
      unfold rdA
      rw [hv]
    · show _ = rdA (villP tp.2 tp.1)
      unfold rdA
      rw [hv]
  · refine c_mfault1 C (fun I' R' cc hv F S' hR => fin I' R' _ F S' hR ?_) (fun I' R' hv F S' hR => fin I' R' _ F S' hR ?_)
    · show _ = rdA (plaw tp.2 tp.1)
      unfold rdA
      rw [hv]
    · show _ = rdA (plaw tp.2 tp.1)
      unfold rdA
      rw [hv]
  · refine c_mfault2 C (fun I' R' z hv F S' hR _ _ _ => fin I' R' _ F S' hR ?_) (fun I' R' hv F S' hR => fin I' R' _ F S' hR ?_)
    · show _ = rdA (spR tp)
      unfold rdA
      rw [hv]
    · show _ = rdA (spR tp)
      unfold rdA
      rw [hv]
end
