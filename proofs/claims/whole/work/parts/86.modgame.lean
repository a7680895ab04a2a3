/-! THE FACE: game: the model -/
/-- the model's row where the class's only paints off: Z says what the model has wiped -/
def WipR (Z : Nat → Prop) (Tc Tm : Nat → Nat) : Prop := (∀ k, 27 ≤ k → k < 50 → k ≠ 45 → Tm k = Tc k) ∧ ∀ p, p < 9 → (Tm (3 * p) = Tc (3 * p) ∧ Tm (3 * p + 1) = Tc (3 * p + 1) ∧ Tm (3 * p + 2) = Tc (3 * p + 2)) ∨ (Tm (3 * p + 2) = 0 ∧ Z p)
section
variable {Z Z' : Nat → Prop} {Tc Tm Y : Nat → Nat} {Wc : Nat → Nat → Nat → Nat → Nat → Nat → Nat} {B nf p f k : Nat}
theorem WipR.wide (h : WipR Z Tc Tm) (hz : ∀ p, p < 9 → Z p → Z' p) : WipR Z' Tc Tm := ⟨h.1, fun p hp => (h.2 p hp).imp id (fun e => ⟨e.1, hz p hp e.2⟩)⟩
theorem WipR.bare (h : WipR Z Tc Tm) (hf : f < 6) : bareA Y Tm f = bareA Y Tc f := by
  unfold bareA
  rw [h.1 _ (by omega) (by omega) (by omega), h.1 _ (by omega) (by omega) (by omega)]
theorem WipR.daub (h : WipR Z Tc Tm) (hf : f < 6) : WipR Z (daubT Tc f k) (daubT Tm f k) := by
  unfold daubT
  refine ⟨fun y h1 h2 h3 => ?_, fun p hp => ?_⟩
  · rw [h.1 47 (by omega) (by omega) (by omega), h.1 (28 + 3 * f) (by omega) (by omega) (by omega)]
    by_cases e : y = 47
    · subst e; rw [up_at, up_at]
    · rw [up_ne e, up_ne e]
      by_cases e2 : y = 28 + 3 * f
      · rw [e2, up_at, up_at]
      · rw [up_ne e2, up_ne e2]; exact h.1 y h1 h2 h3
  · have u : ∀ (T : Nat → Nat) (a b : Nat) (y : Nat), y < 27 → up (up T (28 + 3 * f) a) 47 b y = T y := fun T a b y hy => by rw [up_ne (by omega), up_ne (by omega)]
    rw [u _ _ _ _ (by omega), u _ _ _ _ (by omega), u _ _ _ _ (by omega), u _ _ _ _ (by omega), u _ _ _ _ (by omega), u _ _ _ _ (by omega)]
    exact h.2 p hp
theorem WipR.pardon (h : WipR Z Tc Tm) (hp : p < 9) (s : Tm (3 * p) = Tc (3 * p) ∧ Tm (3 * p + 1) = Tc (3 * p + 1) ∧ Tm (3 * p + 2) = Tc (3 * p + 2)) (h1 : Tc (3 * p) < 6) (h2 : Tc (3 * p + 1) < 6) (hz : Z p) : WipR Z (paintT Wc Y Tc p) (pardonT Wc Y Tm p) := by
  have ey : yardsA Wc Y Tm p = yardsA Wc Y Tc p := by
    unfold yardsA
    rw [s.1, s.2.1, s.2.2, h.bare h2, h.1 (29 + 3 * Tc (3 * p)) (by omega) (by omega) (by omega), h.1 47 (by omega) (by omega) (by omega), h.1 49 (by omega) (by omega) (by omega)]
  unfold pardonT
  refine ⟨fun k k1 k2 k3 => ?_, fun i hi => ?_⟩
  · rw [up_ne k3, zeroT_ne (by omega)]
    unfold paintT
    rw [ey, s.1, s.2.1, h.1 (29 + 3 * Tc (3 * p)) (by omega) (by omega) (by omega), h.1 47 (by omega) (by omega) (by omega), h.1 (27 + 3 * Tc (3 * p + 1)) (by omega) (by omega) (by omega)]
    by_cases e : k = 29 + 3 * Tc (3 * p)
    · rw [e, up_at, up_at]
    rw [up_ne e, up_ne e]
    by_cases e : k = 47
    · rw [e, up_at, up_at]
    rw [up_ne e, up_ne e]
    by_cases e : k = 27 + 3 * Tc (3 * p + 1)
    · rw [e, up_at, up_at]
    rw [up_ne e, up_ne e]
    exact h.1 k k1 k2 k3
  · by_cases e : i = p
    · subst e
      refine Or.inr ⟨?_, hz⟩
      rw [up_ne (by omega)]
      exact zeroT_at (by omega) (by omega)
    · rw [up_ne (by omega), up_ne (by omega), up_ne (by omega), zeroT_ne (by omega), zeroT_ne (by omega), zeroT_ne (by omega), paint_low (by omega), paint_low (by omega), paint_low (by omega), paint_low (by omega), paint_low (by omega), paint_low (by omega)]
      exact h.2 i hi
end
section
variable {G : zG} {d : Nat} {I : Nat → Nat → Int32} {J : Nat → Nat → Int64} {R : Nat → Nat → Option Nat} {K : Nat → Nat × Nat} {n : Nat} {m t c : Nat} {tl : Nat → Nat} {tt : Nat → Nat → Nat} {vl : Vt} {st : Stt} {tp : Tpt} {lw : Lwt} {sp : Spt} {ap : Nat} {sg : Sgt} {B B1 : Nat} {p1 p2 p3 p4 p5 : Int32} {Tc Tm T0 : Nat → Nat} {Z : Nat → Prop} {Q : Option Value → zH → Prop}
theorem c_mcho {f g : Nat} (hf : f < vl.1) (hg : g < vl.1) (W : okVl vl) (hZ : ∀ p, p < 9 → Z p → ¬ (T0 (3 * p + 1) = f ∧ T0 (3 * p) = g)) (hB : B1 + 9 < 100000) : ∀ (j i : Nat) (I1 : Nat → Nat → Int32) (J1 : Nat → Nat → Int64) (R1 : Nat → Nat → Option Nat) (t1 c1 : Nat) (Tc Tm : Nat → Nat), i + j = 9 → MIv G I1 J1 R1 K n m t1 c1 tl tt vl st tp lw sp ap sg B → MF m I I1 J J1 R R1 → MR I1 (m + 14) Tm → okT (B1 + i) vl.1 vl.2.1 Tm → (∀ k, k < 27 → Tc k = T0 k) → WipR (fun p => Z p ∨ (p < i ∧ T0 (3 * p + 1) = f ∧ T0 (3 * p) = g)) Tc Tm → (∀ I' J' R' t' c' Tm', MIv G I' J' R' K n m t' c' tl tt vl st tp lw sp ap sg B → MF m I I' J J' R R' → MR I' (m + 14) Tm' → okT (B1 + 9) vl.1 vl.2.1 Tm' → WipR (fun p => Z p ∨ (T0 (3 * p + 1) = f ∧ T0 (3 * p) = g)) (choT (aW lw) vl.2.1 f g j i Tc) Tm' → Q none (I', J', R', K, n)) → zV G (d + 37) mX12_chooses 0 0 3 [(0, .ref m), (1, .int (nI f)), (2, .int (nI g)), (3, .int (nI 1)), (4, .int (nI i))] [] (I1, J1, R1, K, n) Q := by
  have h6 := W.1.1
  intro j
  induction j with
  | zero =>
    intro i I1 J1 R1 t1 c1 Tc Tm hi C1 F1 r1 ok hT rl hQ
    obtain rfl : i = 9 := by omega
    refine wX12_chooses_3 m t1 c1 C1.S_ _ _ _ _ ⟨fun _ => ⟨fun h => absurd h (by decide), fun _ => ?_⟩, fun h => absurd (by decide) h⟩
    exact hQ I1 J1 R1 t1 c1 Tm C1 F1 r1 ok (rl.wide (fun p hp h => h.imp id (fun e => e.2)))
  | succ j ih =>
    intro i I1 J1 R1 t1 c1 Tc Tm hi C1 F1 r1 ok hT rl hQ
    rw [choT] at hQ
    refine wX12_chooses_3 m t1 c1 C1.S_ _ _ _ _ ⟨fun h => ?_, fun _ => ⟨fun _ => ?_, fun h => absurd rfl h⟩⟩
    · rw [show (9 : Int32) = nI 9 from rfl, tk_le (by omega) (by omega)] at h
      omega
    have wid : WipR (fun p => Z p ∨ (p < i + 1 ∧ T0 (3 * p + 1) = f ∧ T0 (3 * p) = g)) Tc Tm := rl.wide (fun p hp h => h.imp id (fun e => ⟨by omega, e.2⟩))
    have skip : ¬ (0 < Tc (3 * i + 2) ∧ Tc (3 * i + 1) = f ∧ Tc (3 * i) = g) → zV G (d + 37) mX12_chooses 0 0 3 [(0, .ref m), (1, .int (nI f)), (2, .int (nI g)), (3, .int (nI 1)), (4, .int (nI (i + 1)))] [] (I1, J1, R1, K, n) Q := fun hn => by
      rw [if_neg hn] at hQ
      exact ih (i + 1) I1 J1 R1 t1 c1 Tc Tm (by omega) C1 F1 r1 (ok.wide (by omega) (by omega)) hT wid hQ
    rw [nI_1]
    by_cases ho : 0 < Tm (3 * i + 2)
    · obtain ⟨o1, o2, -⟩ := (ok.1 i (by omega)).2 ho
      have sm := (rl.2 i (by omega)).resolve_right (fun h => by omega)
      refine c_mo_y (Mod_28 C1.S_) r1 ok (p := i) (by omega) ho ?_
      refine ⟨_, _, rfl, rfl, ?_⟩
      refine ⟨fun h => absurd h (by decide), fun _ => ?_⟩
      rw [show (3 * nI i : Int32) = nI (3 * i) by rw [show (3 : Int32) = nI 3 from rfl, pk_mul], nI_1, tk_c (by omega), tk_c (by omega), r1 _ (by omega), r1 _ (by omega), tk_eq (by omega) (by omega), tk_eq (by omega) (by omega)]
      refine ⟨(tk_in (by omega) (by omega)).mpr (by omega), fun hg' => ⟨(tk_in (by omega) (by omega)).mpr (by omega), fun hf' => ?_, fun hf' => skip (fun h => hf' (by rw [sm.2.1]; exact h.2.1))⟩, fun hg' => skip (fun h => hg' (by rw [sm.1]; exact h.2.2))⟩
      have hm : 0 < Tc (3 * i + 2) ∧ Tc (3 * i + 1) = f ∧ Tc (3 * i) = g := ⟨by rw [← sm.2.2]; exact ho, by rw [← sm.2.1]; exact hf', by rw [← sm.1]; exact hg'⟩
      rw [if_pos hm] at hQ
      refine c_forgives C1.S_ (Mod_28 C1.S_) (Or.inr rfl) C1.lm_ C1.hld C1.v_.1 W.1 r1 ok (p := i) (by omega) ho ?_
      intro I2 J2 R2 t2 c2 S2 L2 F2 r2 _
      refine ⟨_, _, _, _, rfl, rfl, _, _, S2, ?_⟩
      obtain ⟨M2, g2, g3⟩ := C1.fmo S2 L2 F2
      refine ih (i + 1) I2 J2 R2 t2 c2 _ _ (by omega) M2 (F1.tr ⟨g2, g3⟩) r2 (ok.pardon W.1 (by omega) (by omega) ho) (fun k hk => by rw [paint_low hk]; exact hT k hk) ?_ hQ
      refine wid.pardon (by omega) sm (by omega) (by omega) (Or.inr ⟨by omega, ?_, ?_⟩)
      · rw [← hT _ (by omega)]; exact hm.2.1
      · rw [← hT _ (by omega)]; exact hm.2.2
    · refine c_mo_n (Mod_28 C1.S_) r1 (p := nI i) (Or.inr ⟨i, by omega, rfl, by omega⟩) ?_
      refine ⟨_, _, rfl, rfl, ?_⟩
      refine ⟨fun _ => skip (fun h => ?_), fun h => absurd rfl h⟩
      rcases rl.2 i (by omega) with s | ⟨-, z | z⟩
      · rw [← s.2.2] at h; exact ho h.1
      · exact hZ i (by omega) z ⟨by rw [← hT _ (by omega)]; exact h.2.1, by rw [← hT _ (by omega)]; exact h.2.2⟩
      · omega
theorem c_chooses (C : MIv G I J R K n m t c tl tt vl st tp lw sp ap sg B) {f g k : Nat} (hf : f < vl.1) (hg : g < vl.1) (hk : k < 3) (hZ : ∀ p, p < 9 → Z p → ¬ (T0 (3 * p + 1) = f ∧ T0 (3 * p) = g)) (hB : B1 + 9 < 100000) (r : MR I (m + 14) Tm) (ok : okT B1 vl.1 vl.2.1 Tm) (hT : ∀ k, k < 27 → Tc k = T0 k) (rl : WipR Z Tc Tm) (hQ : ∀ I' J' R' t' c' Tm', MIv G I' J' R' K n m t' c' tl tt vl st tp lw sp ap sg B → MF m I I' J J' R R' → MR I' (m + 14) Tm' → okT (B1 + 9) vl.1 vl.2.1 Tm' → WipR (fun p => Z p ∨ (T0 (3 * p + 1) = f ∧ T0 (3 * p) = g)) (gamT (aW lw) vl.2.1 f g k Tc) Tm' → Q none (I', J', R', K, n)) : zC G (d + 37) mX12_chooses 0 0 [.ref m, .int (nI f), .int (nI g), .int (nI k)] (I, J, R, K, n) Q := by
  have h6 := C.okv_.1.1
  have w0 : WipR (fun p => Z p ∨ (T0 (3 * p + 1) = f ∧ T0 (3 * p) = g)) Tc Tm := rl.wide (fun p hp h => Or.inl h)
  refine zC.of (by decide) (Nat.le_of_ble_eq_true rfl) ?_
  refine wX12_chooses_0 m t c C.S_ _ _ _ ?_
  have hc : k = 0 ∨ k = 1 ∨ k = 2 := by omega
  rcases hc with rfl | rfl | rfl
  · refine wX12_chooses_3 m t c C.S_ _ _ _ _ ⟨fun h => absurd h (by decide), fun _ => ⟨fun h => absurd h (by decide), fun _ => ⟨fun h => absurd h (by decide), fun _ => ?_⟩⟩⟩
    exact hQ I J R t c Tm C MF.rf r (ok.wide (by omega) hB) w0
  · exact c_mcho hf hg C.okv_ hZ hB 9 0 I J R t c Tc Tm (by omega) C MF.rf r ok hT (rl.wide (fun p hp h => Or.inl h)) hQ
  · have bl := bareA_le (T := Tm) C.okv_.1 hf
    have o := ok.2.2.2.2
    refine wX12_chooses_3 m t c C.S_ _ _ _ _ ⟨fun h => absurd h (by decide), fun _ => ⟨fun h => absurd h (by decide), fun _ => ⟨fun _ => ⟨(tk_in (n := 47) (by omega) (by omega)).mpr (by omega), ?_⟩, fun h => absurd rfl h⟩⟩⟩
    refine c_mbare C.S_ (Mod_28 C.S_) C.v_.1 C.okv_.1 r ok hf ?_
    refine ⟨_, _, rfl, rfl, ?_⟩
    have e : (if (if nI (bareA vl.2.1 Tm f) < I (m + 14) (47 : Int32).toNatClampNeg then nI (bareA vl.2.1 Tm f) else I (m + 14) (47 : Int32).toNatClampNeg) < (9 : Int32) then (if nI (bareA vl.2.1 Tm f) < I (m + 14) (47 : Int32).toNatClampNeg then nI (bareA vl.2.1 Tm f) else I (m + 14) (47 : Int32).toNatClampNeg) else (9 : Int32)) = nI (dabN vl.2.1 Tm f) := by
      rw [show (47 : Int32).toNatClampNeg = 47 from rfl, r 47 (by omega)]
      unfold dabN
      simp (disch := omega) only [tk_0, tk_1, tk_2, tk_3, tk_4, tk_5, tk_6, tk_7, tk_8, tk_9, tk_10, tk_11, tk_12, tk_13, tk_14, tk_15, tk_16, tk_20, tk_24, tk_25, tk_26, tk_27, tk_28, tk_29, tk_30, tk_31, tk_32, tk_40, tk_41, tk_45, tk_46, tk_47, tk_48, tk_49, tk_50, tk_51, tk_57, tk_60, tk_99, tk_100, tk_120, tk_128, tk_231, tk_240, tk_255, tk_500, tk_999, tk_9999, tk_10000, pk_mul, nI_add, tk_c, tk_in, tk_lt, tk_le, tk_eq, tk_and31, tk_shl1, tk_shr1, tk_and1, tk_or, tk_ite, tk_tb, tk_mn, tk_mx]
    rw [e]
    have ed : dabN vl.2.1 Tm f = dabN vl.2.1 Tc f := by
      unfold dabN
      rw [rl.bare (by omega), rl.1 47 (by omega) (by omega) (by omega)]
    refine c_paints (Mod_28 C.S_) r (f := f) (by omega) (by unfold dabN; omega) ?_
    intro I2 r2 _ g2
    refine ⟨_, rfl, rfl, ?_⟩
    refine hQ I2 J R t c _ (C.m14 g2) (MF.z (fun b hb => g2 b (by omega))) r2 ((ok.daub C.okv_.1 hf (by unfold dabN; omega) (by unfold dabN; omega)).wide (by omega) hB) ?_
    rw [ed]
    exact w0.daub (by omega)
end
