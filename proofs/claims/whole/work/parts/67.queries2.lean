/-! THE FACE: step, wrong, seen, fades -/
section
variable {G : zG} {d : Nat} {I : Nat → Nat → Int32} {J : Nat → Nat → Int64} {R : Nat → Nat → Option Nat} {K : Nat → Nat × Nat} {n : Nat} {x m v w q nx lo M t c : Nat} {lk sq : Nat → Nat} {tl : Nat → Nat} {tt : Nat → Nat → Nat} {vl : Vt} {st : Stt} {tp : Tpt} {lw : Lwt} {sp : Spt} {ap : Nat} {sg : Sgt} {B B' : Nat} {p p2 p3 : Int32} {Q : Option Value → zH → Prop}
/-- what changes scratch alone leaves the model's cells -/
theorem CIv.mid {I' : Nat → Nat → Int32} (C : CIv G I R K n x m v w q nx lo M lk sq vl st tp lw sp ap sg B) (h : ∀ b k, ¬ scr x w q nx lk lw.1 b k → I' b k = I b k) : ∀ b, m ≤ b → b < m + 21 → I' b = I b := by
  intro b b1 b2
  have vw := C.vw
  have hnx := C.hr.2.2.1
  obtain ⟨g1, g2, g3, g4, g5, g6, g7, g8, g9, g10⟩ := C.gm
  refine funext fun k => h b k ?_
  rintro (h | h | h | h | h | h | h | h | h | h | ⟨j, hj, h⟩)
  · omega
  · omega
  · omega
  · omega
  · omega
  · omega
  · omega
  · omega
  · omega
  · omega
  · have := g3 j hj; omega
/-- the model, after a law was gone through -/
theorem MIv.fmo {I' : Nat → Nat → Int32} {J' : Nat → Nat → Int64} {R' : Nat → Nat → Option Nat} {t' c' : Nat} (C : MIv G I J R K n m t c tl tt vl st tp lw sp ap sg B) (S' : hMod G R' K n m t' c') (L' : LMo I' J' m lw.1 tl tt lw.2.1) (F : FMo (fun q => q = m + 14) m I I' J J' R R') : MIv G I' J' R' K n m t' c' tl tt vl st tp lw sp ap sg B ∧ (∀ b, b < m ∨ m + 21 ≤ b → I' b = I b ∧ J' b = J b) ∧ (∀ b, b ≠ m → R' b = R b) := by
  have hb : ∀ b, b ≠ m → b ≠ m + 14 → b ≠ m + 4 → b ≠ m + 16 → I' b = I b := fun b h1 h2 h3 h4 => F.1 b h2 h1 h3 h4
  refine ⟨C.acts S' (fun b k h1 h2 h3 h4 h5 => ?_) L' ?_ C.oks_, fun b h => ⟨hb b (by omega) (by omega) (by omega) (by omega), F.2.2.1 b (by omega)⟩, F.2.2.2.1⟩
  · by_cases e : b = m
    · subst e
      rw [F.2.1 k (by unfold scm at h1; omega)]
    · rw [hb b e (by unfold scm at h1; omega) (by unfold scm at h1; omega) (by unfold scm at h1; omega)]
  · unfold mS
    rw [F.2.1 39 (by omega), F.2.1 47 (by omega), hb (m + 13) (by omega) (by omega) (by omega) (by omega), hb (m + 17) (by omega) (by omega) (by omega) (by omega), hb (m + 20) (by omega) (by omega) (by omega) (by omega)]
    exact C.s_
-- step
def isStp (sp : Spt) (p p2 p3 : Int32) : Prop := ∃ k i j : Nat, k < sp.1 ∧ i < sp.2.1 k ∧ j < 3 ∧ p = nI k ∧ p2 = nI i ∧ p3 = nI j
theorem x_step_n (C : CIv G I R K n x m v w q nx lo M lk sq vl st tp lw sp ap sg B) (hp : ¬ isStp sp p p2 p3) : XC G (d + 2) mX11_step [.ref x, .int p, .int p2, .int p3] I J R K n x m (-1000000) vl st tp lw sp ap sg B := by
  intro Q hQ
  replace hQ := hQ I v w q nx lo M lk sq C (fun _ _ _ => rfl)
  obtain ⟨c1, c2, c3⟩ := C.cp
  refine zC.of (by decide) (Nat.le_of_ble_eq_true rfl) ?_
  refine wX11_step_0 x v w q C.X _ _ _ ?_
  refine zC.of (by decide) (Nat.le_of_ble_eq_true rfl) (wX11_isSpring_0 x v w q C.X _ ?_)
  refine ⟨_, _, rfl, rfl, ?_⟩
  rw [c2]
  rcases bad_or (N := sp.1) (by omega) p with h | ⟨k, hk, rfl⟩
  · refine ⟨fun _ => hQ, fun h2 => absurd ?_ h2⟩
    rcases h with h | h
    · rw [if_pos h]
    · rw [if_pos h, ite_self]
  · refine ⟨fun h => ?_, fun _ => ⟨fun _ => hQ, fun h2 => ?_⟩⟩
    · rw [if_neg (nI_pos (by omega)), if_neg (by rw [tk_le (by omega) (by omega)]; omega)] at h
      exact absurd h (by decide)
    obtain ⟨a1, a2, a3⟩ := c3 k hk
    have h16 := a3.1
    have hin : vp_in (nI k) 4 := (tk_in (by omega) (by omega)).mpr (by omega)
    rw [tk_c (by omega)]
    refine ⟨hin, sq k, a1, a2, ?_⟩
    rw [a3.2.1]
    refine ⟨fun h3 => ?_, fun _ => hQ⟩
    obtain ⟨i, hi, rfl⟩ := tk_of h2 h3 (by omega)
    have hj : ∀ j : Nat, j < 3 → p3 ≠ nI j := fun j hj e => hp ⟨k, i, j, hk, hi, hj, rfl, rfl, e⟩
    exact ⟨fun h => absurd h (hj 0 (by omega)), fun h => absurd h (hj 1 (by omega)), fun h => absurd h (hj 2 (by omega)), fun _ _ _ => hQ⟩
theorem x_step_y (C : CIv G I R K n x m v w q nx lo M lk sq vl st tp lw sp ap sg B) {k i j : Nat} (hk : k < sp.1) (hi : i < sp.2.1 k) (hj : j < 3) : XC G (d + 2) mX11_step [.ref x, .int (nI k), .int (nI i), .int (nI j)] I J R K n x m (sp.2.2 k (3 * i + j)) vl st tp lw sp ap sg B := by
  intro Q hQ
  replace hQ := hQ I v w q nx lo M lk sq C (fun _ _ _ => rfl)
  obtain ⟨c1, c2, c3⟩ := C.cp
  obtain ⟨a1, a2, a3⟩ := c3 k hk
  have h16 := a3.1
  obtain ⟨e0, e1, e2, -⟩ := a3.2.2 i hi
  have hin : vp_in (nI k) 4 := (tk_in (by omega) (by omega)).mpr (by omega)
  have hin2 : vp_in (nI i) 16 := (tk_in (by omega) (by omega)).mpr (by omega)
  refine zC.of (by decide) (Nat.le_of_ble_eq_true rfl) ?_
  refine wX11_step_0 x v w q C.X _ _ _ ?_
  refine zC.of (by decide) (Nat.le_of_ble_eq_true rfl) (wX11_isSpring_0 x v w q C.X _ ?_)
  refine ⟨_, _, rfl, rfl, ?_⟩
  rw [c2, if_neg (nI_pos (by omega)), if_neg (by rw [tk_le (by omega) (by omega)]; omega), tk_c (by omega), tk_c (by omega)]
  refine ⟨fun h => absurd h (by decide), fun _ => ⟨fun h => absurd h (nI_pos (by omega)), fun _ => ⟨hin, sq k, a1, a2, fun _ => ?_, fun h => ?_⟩⟩⟩
  · have hc : j = 0 ∨ j = 1 ∨ j = 2 := by omega
    rcases hc with rfl | rfl | rfl
    · refine ⟨fun _ => ⟨hin, sq k, a1, a2, hin2, qI e0.symm hQ⟩, fun h => absurd h (by decide), fun h => absurd h (by decide), fun h => absurd rfl h⟩
    · refine ⟨fun h => absurd h (by decide), fun _ => ⟨hin, sq k, a1, a2, hin2, qI e1.symm hQ⟩, fun h => absurd h (by decide), fun _ h => absurd rfl h⟩
    · refine ⟨fun h => absurd h (by decide), fun h => absurd h (by decide), fun _ => ⟨hin, sq k, a1, a2, hin2, qI e2.symm hQ⟩, fun _ _ h => absurd rfl h⟩
  · rw [a3.2.1, tk_lt (by omega) (by omega)] at h
    omega
theorem y_step_n (C : MIv G I J R K n m t c tl tt vl st tp lw sp ap sg B) (hp : ¬ isStp sp p p2 p3) : YC G (d + 2) mX12_step [.ref m, .int p, .int p2, .int p3] I J R K n m t c tl tt (-1000000) vl st tp lw sp ap sg B := by
  intro Q hQ
  obtain ⟨M1, f1⟩ := C.z0 (y := 0)
  replace hQ := hQ _ M1 f1
  obtain ⟨c1, c2, c3⟩ := M1.p_
  refine zC.of (by decide) (Nat.le_of_ble_eq_true rfl) ?_
  refine wX12_step_0 m t c C.S_ _ _ _ ?_
  rintro _ rfl
  refine zC.of (by decide) (Nat.le_of_ble_eq_true rfl) (wX12_isPlan_0 m t c C.S_ _ ?_)
  refine ⟨_, _, rfl, rfl, ?_⟩
  rw [c2]
  rcases bad_or (N := sp.1) (by omega) p with h | ⟨k, hk, rfl⟩
  · refine ⟨fun _ => hQ, fun h2 => absurd ?_ h2⟩
    rcases h with h | h
    · rw [if_pos h]
    · rw [if_pos h, ite_self]
  · refine ⟨fun h => ?_, fun _ => ?_⟩
    · rw [if_neg (nI_pos (by omega)), if_neg (by rw [tk_le (by omega) (by omega)]; omega)] at h
      exact absurd h (by decide)
    obtain ⟨a1, a2, a3⟩ := c3 k hk
    rw [tk_c (by omega), a2]
    refine ⟨(tk_in (by omega) (by omega)).mpr (by omega), ?_⟩
    rcases bad_or (N := sp.2.1 k) (by omega) p2 with h | ⟨i, hi, rfl⟩
    · refine c_in_n (N := sp.2.1 k) (tk_pm (by omega)) (by omega) h ?_
      refine ⟨_, _, rfl, rfl, ?_⟩
      exact ⟨fun _ => hQ, fun h => absurd rfl h⟩
    · refine c_in_y (N := sp.2.1 k) (tk_pm (by omega)) (by omega) hi ?_
      refine ⟨_, _, rfl, rfl, ?_⟩
      refine ⟨fun h => absurd h (by decide), fun _ => ?_⟩
      rcases bad_or (N := 3) (by omega) p3 with h | ⟨j, hj, rfl⟩
      · refine c_in_n (N := 3) (by decide) (by decide) h ?_
        refine ⟨_, _, rfl, rfl, ?_⟩
        exact ⟨fun h => absurd rfl h, qI (by rw [if_pos rfl]) hQ⟩
      · exact absurd ⟨k, i, j, hk, hi, hj, rfl, rfl, rfl⟩ hp
theorem y_step_y (C : MIv G I J R K n m t c tl tt vl st tp lw sp ap sg B) {k i j : Nat} (hk : k < sp.1) (hi : i < sp.2.1 k) (hj : j < 3) : YC G (d + 2) mX12_step [.ref m, .int (nI k), .int (nI i), .int (nI j)] I J R K n m t c tl tt (sp.2.2 k (3 * i + j)) vl st tp lw sp ap sg B := by
  intro Q hQ
  obtain ⟨M1, f1⟩ := C.z0 (y := 0)
  replace hQ := hQ _ M1 f1
  obtain ⟨c1, c2, c3⟩ := M1.p_
  obtain ⟨a1, a2, a3⟩ := c3 k hk
  obtain ⟨e0, e1, e2, -⟩ := a3 i hi
  refine zC.of (by decide) (Nat.le_of_ble_eq_true rfl) ?_
  refine wX12_step_0 m t c C.S_ _ _ _ ?_
  rintro _ rfl
  refine zC.of (by decide) (Nat.le_of_ble_eq_true rfl) (wX12_isPlan_0 m t c C.S_ _ ?_)
  refine ⟨_, _, rfl, rfl, ?_⟩
  rw [c2, if_neg (nI_pos (by omega)), if_neg (by rw [tk_le (by omega) (by omega)]; omega), tk_c (by omega), a2]
  refine ⟨fun h => absurd h (by decide), fun _ => ⟨(tk_in (by omega) (by omega)).mpr (by omega), ?_⟩⟩
  refine c_in_y (N := sp.2.1 k) (tk_pm (by omega)) (by omega) hi ?_
  refine ⟨_, _, rfl, rfl, ?_⟩
  refine ⟨fun h => absurd h (by decide), fun _ => ?_⟩
  refine c_in_y (N := 3) (by decide) (by decide) hj ?_
  refine ⟨_, _, rfl, rfl, ?_⟩
  rw [if_neg (by decide), show (3 * (16 * nI k + nI i) + nI j : Int32) = nI (3 * (16 * k + i) + j) by rw [show (16 : Int32) = nI 16 from rfl, show (3 : Int32) = nI 3 from rfl, pk_mul, nI_add, pk_mul, nI_add], tk_c (by omega)]
  refine ⟨fun _ => (tk_in (by omega) (by omega)).mpr (by omega), qI ?_ hQ⟩
  have hc : j = 0 ∨ j = 1 ∨ j = 2 := by omega
  rcases hc with rfl | rfl | rfl
  · exact e0.symm
  · exact e1.symm
  · exact e2.symm
-- wrong
def wrongA (vl : Vt) (st : Stt) (lw : Lwt) (k : Nat) (p2 : Int32) : Int32 := if p2 = 0 then nI (st.1 (3 * k)) else if p2 = 1 then nI (st.1 (3 * k + 1)) else if p2 = 2 then nI (st.1 (3 * k + 2)) else if p2 = 3 then nI (yardsA (aW lw) vl.2.1 st.1 k) else -1
theorem x_wrong_n (C : CIv G I R K n x m v w q nx lo M lk sq vl st tp lw sp ap sg B) (hp : shut st.1 p) : XC G (d + 2) mX11_wrong [.ref x, .int p, .int p2] I J R K n x m (-1) vl st tp lw sp ap sg B := by
  intro Q hQ
  replace hQ := hQ I v w q nx lo M lk sq C (fun _ _ _ => rfl)
  refine zC.of (by decide) (Nat.le_of_ble_eq_true rfl) ?_
  refine wX11_wrong_0 x v w q C.X _ _ ?_
  refine c_isOpen_n (X_5 C.X) C.cs C.oks.1 hp ?_
  refine ⟨_, _, rfl, rfl, ?_⟩
  exact ⟨fun _ => hQ, fun h => absurd rfl h⟩
theorem x_wrong_y (C : CIv G I R K n x m v w q nx lo M lk sq vl st tp lw sp ap sg B) {k : Nat} (hk : k < 9) (ho : 0 < st.1 (3 * k + 2)) : XC G (d + 4) mX11_wrong [.ref x, .int (nI k), .int p2] I J R K n x m (wrongA vl st lw k p2) vl st tp lw sp ap sg B := by
  intro Q hQ
  obtain ⟨a1, a2⟩ := C.cs.1 k hk
  have hin : vp_in (nI k) 9 := (tk_in (by omega) (by omega)).mpr (by omega)
  have hQ0 := hQ I v w q nx lo M lk sq C (fun _ _ _ => rfl)
  refine zC.of (by decide) (Nat.le_of_ble_eq_true rfl) ?_
  refine wX11_wrong_0 x v w q C.X _ _ ?_
  refine c_isOpen_y (X_5 C.X) C.cs C.oks.1 hk ho ?_
  refine ⟨_, _, rfl, rfl, ?_⟩
  rw [tk_c (by omega)]
  refine ⟨fun h => absurd h (by decide), fun _ => ⟨fun h => ⟨hin, qI ?_ hQ0⟩, fun h => ⟨hin, qI ?_ hQ0⟩, fun h => ⟨hin, qI ?_ hQ0⟩, fun h => ?_, fun h0 h1 h2 h3 => qI ?_ hQ0⟩⟩
  · subst h; exact (a2 ho).1.symm
  · subst h; exact (a2 ho).2.symm
  · subst h; exact a1.symm
  · subst h
    refine c_yardsOf (X_5 C.X) C.g1 C.cv.1 C.okv.1 C.cs C.oks.1 C.lwh hk ho ?_
    intro I' F
    have hs : ∀ b k, ¬ scr x w q nx lk lw.1 b k → I' b k = I b k := fun b k h => C.fr F not_false h
    exact ⟨_, _, rfl, rfl, hQ I' v w q nx lo M lk sq (C.same hs) (C.mid hs)⟩
  · unfold wrongA
    rw [if_neg h0, if_neg h1, if_neg h2, if_neg h3]
theorem y_wrong_n (C : MIv G I J R K n m t c tl tt vl st tp lw sp ap sg B) (hp : shut st.1 p) : YL G (d + 2) mX12_wrong [.ref m, .int p, .int p2] I J R K n m tl tt (-1) vl st tp lw sp ap sg B := by
  intro Q hQ
  obtain ⟨M1, f1⟩ := C.z0 (y := 0)
  refine zC.of (by decide) (Nat.le_of_ble_eq_true rfl) ?_
  refine wX12_wrong_0 m t c C.S_ _ _ ?_
  rintro _ rfl
  refine c_mo_n (Mod_26 C.S_) M1.mr hp ?_
  refine ⟨_, _, rfl, rfl, ?_⟩
  exact ⟨fun _ => hQ _ J R t c M1 (fun b hb => ⟨f1 b hb, rfl⟩) (fun _ _ => rfl), fun h => absurd rfl h⟩
theorem y_wrong_y (C : MIv G I J R K n m t c tl tt vl st tp lw sp ap sg B) {k : Nat} (hk : k < 9) (ho : 0 < st.1 (3 * k + 2)) : YL G (d + 36) mX12_wrong [.ref m, .int (nI k), .int p2] I J R K n m tl tt (wrongA vl st lw k p2) vl st tp lw sp ap sg B := by
  intro Q hQ
  obtain ⟨M1, f1⟩ := C.z0 (y := 0)
  have hQ0 := hQ _ J R t c M1 (fun b hb => ⟨f1 b hb, rfl⟩) (fun _ _ => rfl)
  refine zC.of (by decide) (Nat.le_of_ble_eq_true rfl) ?_
  refine wX12_wrong_0 m t c C.S_ _ _ ?_
  rintro _ rfl
  refine c_mo_y (Mod_26 C.S_) M1.mr M1.oks_.1 hk ho ?_
  refine ⟨_, _, rfl, rfl, ?_⟩
  refine ⟨fun h => absurd h (by decide), fun _ => ?_⟩
  rcases bad_or (N := 4) (by omega) p2 with h | ⟨j, hj, rfl⟩
  · refine c_in_n (N := 4) (by decide) (by decide) h ?_
    refine ⟨_, _, rfl, rfl, ?_⟩
    refine ⟨fun _ => qI ?_ hQ0, fun h => absurd rfl h⟩
    have hb : ∀ j : Nat, j < 4 → p2 ≠ nI j := fun j hj e => absurd h (by rw [e]; exact bad_not (by omega) hj)
    unfold wrongA
    rw [if_neg (show ¬ p2 = 0 from hb 0 (by omega)), if_neg (show ¬ p2 = 1 from hb 1 (by omega)), if_neg (show ¬ p2 = 2 from hb 2 (by omega)), if_neg (show ¬ p2 = 3 from hb 3 (by omega))]
  · refine c_in_y (N := 4) (by decide) (by decide) hj ?_
    refine ⟨_, _, rfl, rfl, ?_⟩
    refine ⟨fun h => absurd h (by decide), fun _ => ⟨fun h => ?_, fun h => ?_⟩⟩
    · rw [show (3 : Int32) = nI 3 from rfl, tk_eq (by omega) (by omega)] at h
      subst h
      refine c_myards M1.S_ (Mod_26 M1.S_) M1.lm_ M1.hld M1.v_.1 M1.okv_.1 M1.mr M1.oks_.1 hk ho ?_
      intro I' J' R' t' c' S' L' F
      obtain ⟨e1, e2, e3⟩ := M1.fmo S' L' (F.wide (fun b h => absurd h not_false))
      exact ⟨_, _, _, _, rfl, rfl, _, _, S', hQ I' J' R' t' c' e1 (fun b hb => ⟨by rw [(e2 b hb).1]; exact f1 b hb, (e2 b hb).2⟩) e3⟩
    · rw [show (3 : Int32) = nI 3 from rfl, tk_eq (by omega) (by omega)] at h
      rw [show (3 : Int32) = nI 3 from rfl, pk_mul, nI_add, tk_c (by omega), M1.mr _ (by omega)]
      refine ⟨(tk_in (by omega) (by omega)).mpr (by omega), qI ?_ hQ0⟩
      have hc : j = 0 ∨ j = 1 ∨ j = 2 := by omega
      rcases hc with rfl | rfl | rfl
      · rfl
      · rfl
      · rfl
end
