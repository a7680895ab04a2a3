/-! VILLAGES: the class's reader, clause by clause -/
def cD (I : Nat → Nat → Int32) (v : Nat) (s : Vt × Bool) : Prop := cV I v s.1 ∧ I v 9 = (if s.2 = true then 1 else 0)
/-- nothing changed but where reading stands and a village -/
def vFv (t v : Nat) (I I' : Nat → Nat → Int32) : Prop := ∀ b k, ¬ (b = t ∧ k = 2) → ¬ (v ≤ b ∧ b < v + 7) → I' b k = I b k
theorem vpl : vp_in 0 3 ∧ vp_in 1 3 ∧ vp_in 2 3 := ⟨(tk_in (n := 0) (by omega) (by omega)).mpr (by omega), (tk_in (n := 1) (by omega) (by omega)).mpr (by omega), (tk_in (n := 2) (by omega) (by omega)).mpr (by omega)⟩
section
variable {G : zG} {d : Nat} {I : Nat → Nat → Int32} {J : Nat → Nat → Int64} {R : Nat → Nat → Option Nat} {K : Nat → Nat × Nat} {n : Nat} {t v ln p : Nat} {tx : Nat → Nat} {s : Vt × Bool} {Q : Option Value → zH → Prop}
theorem vFv.tp {I' : Nat → Nat → Int32} (F : vFv t v I I') (V : TP I t ln tx) (hv : t + 1 < v) : TP I' t ln tx := V.same (F t 1 (by omega) (by omega)) (funext fun k => F (t + 1) k (by omega) (by omega))
theorem cV.fi {I' : Nat → Nat → Int32} {vl : Vt} (V : cV I v vl) (h : ∀ b, v ≤ b → b < v + 6 → I' b = I b) : cV I' v vl := V.same h
theorem c_vrules (S : hVil G R K n v) (S1 : hTape G R K n t) (hv : t + 1 < v) (V : TP I t ln tx) (hp : p < ln) (e : I t 2 = nI p) (C : cD I v s) (O : okD s) (hs : s.2 = false) (h1 : ∀ I' g, (itP tx ln 0 4 0 (usV 0) (p + 1)).2 = some g → vFv t v I I' → I' t 2 = nI (itP tx ln 0 4 0 (usV 0) (p + 1)).1 → cD I' v ((s.1.1, s.1.2.1, s.1.2.2.1, s.1.2.2.2.1, g 0, g 1), true) → Q (some (.int 1)) (I', J, R, K, n)) (h0 : ∀ I', (itP tx ln 0 4 0 (usV 0) (p + 1)).2 = none → vFv t v I I' → I' t 2 = nI (itP tx ln 0 4 0 (usV 0) (p + 1)).1 → Q (some (.int 0)) (I', J, R, K, n)) : zC G (d + 6) mX10_readRules 0 0 [.ref v, .ref t] (I, J, R, K, n) Q := by
  obtain ⟨⟨c1, c2, c3, c4, c5⟩, c6⟩ := C
  obtain ⟨o1, o2⟩ := O.2.2.2.2.2 hs
  rw [o1] at c3
  rw [o2] at c4
  refine zC.of (by decide) (Nat.le_of_ble_eq_true rfl) ?_
  refine wX10_readRules_0 v t S S1 ?_
  intro I1 q1
  refine ⟨vpl.1, fun I2 q2 => ⟨vpl.2.1, fun I3 q3 => ?_⟩⟩
  rw [show (0 : Int32).toNatClampNeg = 0 from rfl] at q2
  rw [show (1 : Int32).toNatClampNeg = 1 from rfl] at q3
  have F3 : ∀ b k, ¬ (b = v ∧ k = 9) → b ≠ v + 6 → I3 b k = I b k := fun b k g1 g2 => by rw [q3, zU_off g2, q2, zU_off g2, q1, zU_ne g1]
  have e9 : I3 v 9 = 1 := by rw [q3, zU_off (by omega), q2, zU_off (by omega), q1, zU_self]
  have V3 : TP I3 t ln tx := V.same (F3 t 1 (by omega) (by omega)) (funext fun k => F3 (t + 1) k (by omega) (by omega))
  refine c_items (i := 0) (by omega) S S1 hv V3 hp (by rw [F3 t 2 (by omega) (by omega)]; exact e) (f := usV 0) (fun k hk => ?_) (fun I4 g hg F4 e4 f4 => ?_) (fun I4 hg F4 e4 => ?_)
  · have : k < 2 := hk
    have : k = 0 ∨ k = 1 := by omega
    rcases this with rfl | rfl
    · rw [q3, zU_ne (by omega), q2, zU_self, q1, zU_ne (by omega), c3]; rfl
    · rw [q3, zU_self, q2, zU_off (by omega), q1, zU_ne (by omega), c4]; rfl
  · refine ⟨_, _, rfl, rfl, fun h => absurd h (by decide), fun _ => ⟨vpl.1, fun I5 q5 => ⟨vpl.2.1, fun I6 q6 => ?_⟩⟩⟩
    have g0 : I4 (v + 6) 0 = nI (g 0) := f4 0 (by decide)
    have g1 : I4 (v + 6) 1 = nI (g 1) := f4 1 (by decide)
    rw [show (0 : Int32).toNatClampNeg = 0 from rfl, g0] at q5
    have g1' : I5 (v + 6) 1 = nI (g 1) := by rw [q5, zU_off (by omega)]; exact g1
    rw [show (1 : Int32).toNatClampNeg = 1 from rfl, g1'] at q6
    have Fa : ∀ b k, ¬ (b = t ∧ k = 2) → ¬ (b = v ∧ (k = 7 ∨ k = 8 ∨ k = 9)) → b ≠ v + 6 → I6 b k = I b k := fun b k g1 g2 g3 => by
      rw [q6, zU_ne (by omega), q5, zU_ne (by omega), F4 b k g1 g3, F3 b k (by omega) g3]
    have Fb : ∀ b, v < b → b < v + 6 → I6 b = I b := fun b b1 b2 => funext fun k => Fa b k (by omega) (by omega) (by omega)
    refine h1 I6 g hg (fun b k g1 g2 => Fa b k g1 (by omega) (by omega)) (by rw [q6, zU_ne (by omega), q5, zU_ne (by omega)]; exact e4) ⟨⟨⟨?_, ?_⟩, ?_, ?_, ?_, ?_⟩, ?_⟩
    · rw [Fa v 5 (by omega) (by omega) (by omega)]; exact c1.1
    · rw [Fb (v + 1) (by omega) (by omega), Fb (v + 2) (by omega) (by omega)]; exact c1.2
    · rw [Fa v 6 (by omega) (by omega) (by omega)]; exact c2
    · rw [q6, zU_ne (by omega), q5, zU_self]
    · rw [q6, zU_self]
    · rw [Fb (v + 3) (by omega) (by omega), Fb (v + 4) (by omega) (by omega), Fb (v + 5) (by omega) (by omega)]; exact c5
    · rw [q6, zU_ne (by omega), q5, zU_ne (by omega), F4 v 9 (by omega) (by omega), e9]; rfl
  · exact ⟨_, _, rfl, rfl, fun _ => h0 I4 hg (fun b k g1 g2 => by rw [F4 b k g1 (by omega), F3 b k (by omega) (by omega)]) e4, fun h => absurd rfl h⟩
theorem c_vfarm (S : hVil G R K n v) (S1 : hTape G R K n t) (hv : t + 1 < v) (V : TP I t ln tx) (hp : p < ln) (e : I t 2 = nI p) (C : cD I v s) (h6 : s.1.1 < 6) (h1 : ∀ I' g, (itP tx ln 1 4 0 (usV 1) (p + 1)).2 = some g → vFv t v I I' → I' t 2 = nI (itP tx ln 1 4 0 (usV 1) (p + 1)).1 → cD I' v ((s.1.1 + 1, up (up s.1.2.1 (2 * s.1.1) (g 0)) (2 * s.1.1 + 1) (g 1), s.1.2.2.1, s.1.2.2.2.1, s.1.2.2.2.2.1, s.1.2.2.2.2.2), s.2) → Q (some (.int 1)) (I', J, R, K, n)) (h0 : ∀ I', (itP tx ln 1 4 0 (usV 1) (p + 1)).2 = none → vFv t v I I' → I' t 2 = nI (itP tx ln 1 4 0 (usV 1) (p + 1)).1 → Q (some (.int 0)) (I', J, R, K, n)) : zC G (d + 6) mX10_readFarm 0 0 [.ref v, .ref t] (I, J, R, K, n) Q := by
  obtain ⟨⟨c1, c2, c3, c4, c5⟩, c6⟩ := C
  refine zC.of (by decide) (Nat.le_of_ble_eq_true rfl) ?_
  refine wX10_readFarm_0 v t S S1 ?_
  refine ⟨vpl.1, fun I2 q2 => ⟨vpl.2.1, fun I3 q3 => ?_⟩⟩
  rw [show (0 : Int32).toNatClampNeg = 0 from rfl] at q2
  rw [show (1 : Int32).toNatClampNeg = 1 from rfl] at q3
  have F3 : ∀ b k, b ≠ v + 6 → I3 b k = I b k := fun b k g2 => by rw [q3, zU_off g2, q2, zU_off g2]
  have V3 : TP I3 t ln tx := V.same (F3 t 1 (by omega)) (funext fun k => F3 (t + 1) k (by omega))
  refine c_items (i := 1) (by omega) S S1 hv V3 hp (by rw [F3 t 2 (by omega)]; exact e) (f := usV 1) (fun k hk => ?_) (fun I4 g hg F4 e4 f4 => ?_) (fun I4 hg F4 e4 => ?_)
  · have : k < 2 := hk
    have : k = 0 ∨ k = 1 := by omega
    rcases this with rfl | rfl
    · rw [q3, zU_ne (by omega), q2, zU_self]; rfl
    · rw [q3, zU_self]; rfl
  · have g0 : I4 (v + 6) 0 = nI (g 0) := f4 0 (by decide)
    have g1 : I4 (v + 6) 1 = nI (g 1) := f4 1 (by decide)
    have e5 : I4 v 5 = nI s.1.1 := by rw [F4 v 5 (by omega) (by omega), F3 v 5 (by omega)]; exact c1.1
    refine ⟨_, _, rfl, rfl, fun h => absurd h (by decide), fun _ => ⟨vpl.1, ?_⟩⟩
    rw [e5]
    refine ⟨(tk_in (by omega) (by omega)).mpr (by omega), fun I5 q5 => ⟨vpl.2.1, ?_⟩⟩
    rw [show (0 : Int32).toNatClampNeg = 0 from rfl, g0, tk_c (by omega)] at q5
    have e5' : I5 v 5 = nI s.1.1 := by rw [q5, zU_off (by omega)]; exact e5
    have g1' : I5 (v + 6) 1 = nI (g 1) := by rw [q5, zU_off (by omega)]; exact g1
    rw [e5']
    refine ⟨(tk_in (by omega) (by omega)).mpr (by omega), fun I6 q6 I7 q7 => ?_⟩
    rw [show (1 : Int32).toNatClampNeg = 1 from rfl, g1', tk_c (by omega)] at q6
    have e5'' : I6 v 5 = nI s.1.1 := by rw [q6, zU_off (by omega)]; exact e5'
    rw [e5'', nI_1] at q7
    have Fa : ∀ b k, ¬ (b = t ∧ k = 2) → ¬ (b = v ∧ k = 5) → ¬ ((b = v + 1 ∨ b = v + 2) ∧ k = s.1.1) → b ≠ v + 6 → I7 b k = I b k := fun b k g1 g2 g3 g4 => by
      rw [q7, zU_ne g2, q6, zU_ne (by omega), q5, zU_ne (by omega), F4 b k g1 g4, F3 b k g4]
    have Fb : ∀ b, v + 2 < b → b < v + 6 → I7 b = I b := fun b b1 b2 => funext fun k => Fa b k (by omega) (by omega) (by omega) (by omega)
    refine h1 I7 g hg (fun b k g1 g2 => Fa b k g1 (by omega) (by omega) (by omega)) (by rw [q7, zU_ne (by omega), q6, zU_off (by omega), q5, zU_off (by omega)]; exact e4) ⟨⟨⟨?_, fun f hf => ?_⟩, ?_, ?_, ?_, ?_⟩, ?_⟩
    · rw [q7, zU_self]
    · replace hf : f < s.1.1 + 1 := hf
      show I7 (v + 1) f = nI (up (up s.1.2.1 (2 * s.1.1) (g 0)) (2 * s.1.1 + 1) (g 1) (2 * f)) ∧ I7 (v + 2) f = nI (up (up s.1.2.1 (2 * s.1.1) (g 0)) (2 * s.1.1 + 1) (g 1) (2 * f + 1))
      by_cases ef : f = s.1.1
      · rw [ef, up_at, up_ne (by omega), up_at]
        exact ⟨by rw [q7, zU_off (by omega), q6, zU_off (by omega), q5, zU_self], by rw [q7, zU_off (by omega), q6, zU_self]⟩
      · rw [up_ne (by omega), up_ne (by omega), up_ne (by omega), up_ne (by omega), Fa (v + 1) f (by omega) (by omega) (by omega) (by omega), Fa (v + 2) f (by omega) (by omega) (by omega) (by omega)]
        exact c1.2 f (by omega)
    · rw [Fa v 6 (by omega) (by omega) (by omega) (by omega)]; exact c2
    · rw [Fa v 7 (by omega) (by omega) (by omega) (by omega)]; exact c3
    · rw [Fa v 8 (by omega) (by omega) (by omega) (by omega)]; exact c4
    · rw [Fb (v + 3) (by omega) (by omega), Fb (v + 4) (by omega) (by omega), Fb (v + 5) (by omega) (by omega)]; exact c5
    · rw [Fa v 9 (by omega) (by omega) (by omega) (by omega)]; exact c6
  · exact ⟨_, _, rfl, rfl, fun _ => h0 I4 hg (fun b k g1 g2 => by rw [F4 b k g1 (by omega), F3 b k (by omega)]) e4, fun h => absurd rfl h⟩
theorem c_vwrong (S : hVil G R K n v) (S1 : hTape G R K n t) (hv : t + 1 < v) (V : TP I t ln tx) (hp : p < ln) (e : I t 2 = nI p) (C : cD I v s) (h9 : s.1.2.2.1 < 9) (h1 : ∀ I' g, (itP tx ln 2 4 0 (usV 2) (p + 1)).2 = some g → vFv t v I I' → I' t 2 = nI (itP tx ln 2 4 0 (usV 2) (p + 1)).1 → cD I' v ((s.1.1, s.1.2.1, s.1.2.2.1 + 1, up (up (up s.1.2.2.2.1 (3 * s.1.2.2.1) (g 0)) (3 * s.1.2.2.1 + 1) (g 1)) (3 * s.1.2.2.1 + 2) (g 2), s.1.2.2.2.2.1, s.1.2.2.2.2.2), s.2) → Q (some (.int 1)) (I', J, R, K, n)) (h0 : ∀ I', (itP tx ln 2 4 0 (usV 2) (p + 1)).2 = none → vFv t v I I' → I' t 2 = nI (itP tx ln 2 4 0 (usV 2) (p + 1)).1 → Q (some (.int 0)) (I', J, R, K, n)) : zC G (d + 6) mX10_readWrong 0 0 [.ref v, .ref t] (I, J, R, K, n) Q := by
  obtain ⟨⟨c1, c2, c3, c4, c5⟩, c6⟩ := C
  refine zC.of (by decide) (Nat.le_of_ble_eq_true rfl) ?_
  refine wX10_readWrong_0 v t S S1 ?_
  refine ⟨vpl.1, fun I1 q1 => ⟨vpl.2.1, fun I2 q2 => ⟨vpl.2.2, fun I3 q3 => ?_⟩⟩⟩
  rw [show (0 : Int32).toNatClampNeg = 0 from rfl] at q1
  rw [show (1 : Int32).toNatClampNeg = 1 from rfl] at q2
  rw [show (2 : Int32).toNatClampNeg = 2 from rfl] at q3
  have F3 : ∀ b k, b ≠ v + 6 → I3 b k = I b k := fun b k g2 => by rw [q3, zU_off g2, q2, zU_off g2, q1, zU_off g2]
  have V3 : TP I3 t ln tx := V.same (F3 t 1 (by omega)) (funext fun k => F3 (t + 1) k (by omega))
  refine c_items (i := 2) (by omega) S S1 hv V3 hp (by rw [F3 t 2 (by omega)]; exact e) (f := usV 2) (fun k hk => ?_) (fun I4 g hg F4 e4 f4 => ?_) (fun I4 hg F4 e4 => ?_)
  · have : k < 3 := hk
    have : k = 0 ∨ k = 1 ∨ k = 2 := by omega
    rcases this with rfl | rfl | rfl
    · rw [q3, zU_ne (by omega), q2, zU_ne (by omega), q1, zU_self]; rfl
    · rw [q3, zU_ne (by omega), q2, zU_self]; rfl
    · rw [q3, zU_self]; rfl
  · have g0 : I4 (v + 6) 0 = nI (g 0) := f4 0 (by decide)
    have g1 : I4 (v + 6) 1 = nI (g 1) := f4 1 (by decide)
    have g2 : I4 (v + 6) 2 = nI (g 2) := f4 2 (by decide)
    have e6 : I4 v 6 = nI s.1.2.2.1 := by rw [F4 v 6 (by omega) (by omega), F3 v 6 (by omega)]; exact c2
    refine ⟨_, _, rfl, rfl, fun h => absurd h (by decide), fun _ => ⟨vpl.1, ?_⟩⟩
    rw [e6]
    refine ⟨(tk_in (by omega) (by omega)).mpr (by omega), fun I5 q5 => ⟨vpl.2.1, ?_⟩⟩
    rw [show (0 : Int32).toNatClampNeg = 0 from rfl, g0, tk_c (by omega)] at q5
    have e6' : I5 v 6 = nI s.1.2.2.1 := by rw [q5, zU_off (by omega)]; exact e6
    rw [e6']
    refine ⟨(tk_in (by omega) (by omega)).mpr (by omega), fun I6 q6 => ⟨vpl.2.2, ?_⟩⟩
    rw [show (1 : Int32).toNatClampNeg = 1 from rfl, show I5 (v + 6) 1 = nI (g 1) by rw [q5, zU_off (by omega)]; exact g1, tk_c (by omega)] at q6
    have e6'' : I6 v 6 = nI s.1.2.2.1 := by rw [q6, zU_off (by omega)]; exact e6'
    rw [e6'']
    refine ⟨(tk_in (by omega) (by omega)).mpr (by omega), fun I7 q7 I8 q8 => ?_⟩
    rw [show (2 : Int32).toNatClampNeg = 2 from rfl, show I6 (v + 6) 2 = nI (g 2) by rw [q6, zU_off (by omega), q5, zU_off (by omega)]; exact g2, tk_c (by omega)] at q7
    rw [show I7 v 6 = nI s.1.2.2.1 by rw [q7, zU_off (by omega)]; exact e6'', nI_1] at q8
    have Fa : ∀ b k, ¬ (b = t ∧ k = 2) → ¬ (b = v ∧ k = 6) → ¬ ((b = v + 3 ∨ b = v + 4 ∨ b = v + 5) ∧ k = s.1.2.2.1) → b ≠ v + 6 → I8 b k = I b k := fun b k g1 g2 g3 g4 => by
      rw [q8, zU_ne g2, q7, zU_ne (by omega), q6, zU_ne (by omega), q5, zU_ne (by omega), F4 b k g1 g4, F3 b k g4]
    have Fb : ∀ b, v < b → b < v + 3 → I8 b = I b := fun b b1 b2 => funext fun k => Fa b k (by omega) (by omega) (by omega) (by omega)
    refine h1 I8 g hg (fun b k g1 g2 => Fa b k g1 (by omega) (by omega) (by omega)) (by rw [q8, zU_ne (by omega), q7, zU_off (by omega), q6, zU_off (by omega), q5, zU_off (by omega)]; exact e4) ⟨⟨⟨?_, ?_⟩, ?_, ?_, ?_, fun f hf => ?_⟩, ?_⟩
    · rw [Fa v 5 (by omega) (by omega) (by omega) (by omega)]; exact c1.1
    · rw [Fb (v + 1) (by omega) (by omega), Fb (v + 2) (by omega) (by omega)]; exact c1.2
    · rw [q8, zU_self]
    · rw [Fa v 7 (by omega) (by omega) (by omega) (by omega)]; exact c3
    · rw [Fa v 8 (by omega) (by omega) (by omega) (by omega)]; exact c4
    · replace hf : f < s.1.2.2.1 + 1 := hf
      show I8 (v + 3) f = nI (up (up (up s.1.2.2.2.1 (3 * s.1.2.2.1) (g 0)) (3 * s.1.2.2.1 + 1) (g 1)) (3 * s.1.2.2.1 + 2) (g 2) (3 * f)) ∧ I8 (v + 4) f = nI (up (up (up s.1.2.2.2.1 (3 * s.1.2.2.1) (g 0)) (3 * s.1.2.2.1 + 1) (g 1)) (3 * s.1.2.2.1 + 2) (g 2) (3 * f + 1)) ∧ I8 (v + 5) f = nI (up (up (up s.1.2.2.2.1 (3 * s.1.2.2.1) (g 0)) (3 * s.1.2.2.1 + 1) (g 1)) (3 * s.1.2.2.1 + 2) (g 2) (3 * f + 2))
      by_cases ef : f = s.1.2.2.1
      · have z0 : up (up (up s.1.2.2.2.1 (3 * s.1.2.2.1) (g 0)) (3 * s.1.2.2.1 + 1) (g 1)) (3 * s.1.2.2.1 + 2) (g 2) (3 * s.1.2.2.1) = g 0 := by rw [up_ne (by omega), up_ne (by omega), up_at]
        have z1 : up (up (up s.1.2.2.2.1 (3 * s.1.2.2.1) (g 0)) (3 * s.1.2.2.1 + 1) (g 1)) (3 * s.1.2.2.1 + 2) (g 2) (3 * s.1.2.2.1 + 1) = g 1 := by rw [up_ne (by omega), up_at]
        rw [ef, z0, z1, up_at]
        exact ⟨by rw [q8, zU_off (by omega), q7, zU_off (by omega), q6, zU_off (by omega), q5, zU_self], by rw [q8, zU_off (by omega), q7, zU_off (by omega), q6, zU_self], by rw [q8, zU_off (by omega), q7, zU_self]⟩
      · rw [up_ne (by omega), up_ne (by omega), up_ne (by omega), up_ne (by omega), up_ne (by omega), up_ne (by omega), up_ne (by omega), up_ne (by omega), up_ne (by omega), Fa (v + 3) f (by omega) (by omega) (by omega) (by omega), Fa (v + 4) f (by omega) (by omega) (by omega) (by omega), Fa (v + 5) f (by omega) (by omega) (by omega) (by omega)]
        exact c5 f (by omega)
    · rw [Fa v 9 (by omega) (by omega) (by omega) (by omega)]; exact c6
  · exact ⟨_, _, rfl, rfl, fun _ => h0 I4 hg (fun b k g1 g2 => by rw [F4 b k g1 (by omega), F3 b k (by omega)]) e4, fun h => absurd rfl h⟩
theorem c_vclause (S : hVil G R K n v) (S1 : hTape G R K n t) (hv : t + 1 < v) (V : TP I t ln tx) (hp : p ≤ ln) (e : I t 2 = nI p) (C : cD I v s) (O : okD s) (h1 : ∀ I' s', (vcP tx ln p s).2 = some s' → vFv t v I I' → I' t 2 = nI (vcP tx ln p s).1 → cD I' v s' → Q (some (.int 1)) (I', J, R, K, n)) (h0 : ∀ I', (vcP tx ln p s).2 = none → vFv t v I I' → I' t 2 = nI (vcP tx ln p s).1 → Q (some (.int 0)) (I', J, R, K, n)) : zC G (d + 7) mX10_readClause 0 0 [.ref v, .ref t] (I, J, R, K, n) Q := by
  have a1 := sk_le (tx := tx) hp
  have o6 := O.1.1
  have o9 := O.2.1
  refine zC.of (by decide) (Nat.le_of_ble_eq_true rfl) ?_
  refine wX10_readClause_0 v t S S1 ?_
  refine c_nextE S1 V hp e ?_
  refine ⟨_, _, rfl, rfl, ?_⟩
  obtain ⟨I2, q2⟩ : ∃ I2, I2 = zU I t 2 (nI (sk tx ln p)) := ⟨_, rfl⟩
  rw [← q2]
  have F2 : ∀ b k, ¬ (b = t ∧ k = 2) → I2 b k = I b k := fun b k g => by rw [q2, zU_ne g]
  have e2 : I2 t 2 = nI (sk tx ln p) := by rw [q2, zU_self]
  have V2 : TP I2 t ln tx := V.same (F2 t 1 (by omega)) (funext fun k => F2 (t + 1) k (by omega))
  have C2 : cD I2 v s := by
    unfold cD
    rw [F2 v 9 (by omega)]
    exact ⟨C.1.same (fun b b1 b2 => funext fun k => F2 b k (by omega)), C.2⟩
  have FF : ∀ I', vFv t v I2 I' → vFv t v I I' := fun I' F b k g1 g2 => by rw [F b k g1 g2, F2 b k g1]
  have F0 : vFv t v I I2 := fun b k g1 _ => F2 b k g1
  unfold vcP at h1 h0
  refine ⟨fun hc => ?_, fun hc => ?_, fun hc => ?_, fun n1 n2 n3 => ?_⟩
  · have l1 := lk_lt (p := p) (tx := tx) (ln := ln) (by rw [hc]; decide)
    rw [if_neg (by rw [hc]; decide), if_pos hc] at h1 h0
    rw [C2.1.1.1, show (6 : Int32) = nI 6 from rfl, tk_le (by omega) (by omega)]
    refine ⟨fun h => ?_, fun h => ?_⟩
    · rw [if_pos h] at h0
      exact h0 I2 rfl F0 e2
    · rw [if_neg h] at h1 h0
      refine c_vfarm S S1 hv V2 l1 e2 C2 (by omega) (fun I' g hg F' e' C' => ⟨_, _, rfl, rfl, ?_⟩) (fun I' hg F' e' => ⟨_, _, rfl, rfl, ?_⟩)
      · rw [if_neg (by decide)]
        exact h1 I' _ (by rw [hg]; rfl) (FF I' F') e' C'
      · rw [if_pos rfl]
        exact h0 I' (by rw [hg]; rfl) (FF I' F') e'
  · have l1 := lk_lt (p := p) (tx := tx) (ln := ln) (by rw [hc]; decide)
    rw [if_pos hc] at h1 h0
    rw [C2.2]
    cases hs : s.2 with
    | true =>
      rw [hs, if_pos rfl] at h0
      exact ⟨fun h => absurd h (by decide), fun _ => h0 I2 rfl F0 e2⟩
    | false =>
      rw [hs, if_neg (by decide)] at h1 h0
      refine ⟨fun _ => ?_, fun h => absurd rfl h⟩
      refine c_vrules S S1 hv V2 l1 e2 C2 O hs (fun I' g hg F' e' C' => ⟨_, _, rfl, rfl, ?_⟩) (fun I' hg F' e' => ⟨_, _, rfl, rfl, ?_⟩)
      · rw [if_neg (by decide)]
        exact h1 I' _ (by rw [hg]; rfl) (FF I' F') e' C'
      · rw [if_pos rfl]
        exact h0 I' (by rw [hg]; rfl) (FF I' F') e'
  · have l1 := lk_lt (p := p) (tx := tx) (ln := ln) (by rw [hc]; decide)
    rw [if_neg (by rw [hc]; decide), if_neg (by rw [hc]; decide), if_pos hc] at h1 h0
    rw [C2.1.2.1, show (9 : Int32) = nI 9 from rfl, tk_le (by omega) (by omega)]
    refine ⟨fun h => ?_, fun h => ?_⟩
    · rw [if_pos h] at h0
      exact h0 I2 rfl F0 e2
    · rw [if_neg h] at h1 h0
      refine c_vwrong S S1 hv V2 l1 e2 C2 (by omega) (fun I' g hg F' e' C' => ⟨_, _, rfl, rfl, ?_⟩) (fun I' hg F' e' => ⟨_, _, rfl, rfl, ?_⟩)
      · rw [if_neg (by decide)]
        exact h1 I' _ (by rw [hg]; rfl) (FF I' F') e' C'
      · rw [if_pos rfl]
        exact h0 I' (by rw [hg]; rfl) (FF I' F') e'
  · rw [if_neg n2, if_neg n1, if_neg n3] at h0
    exact h0 I2 rfl F0 e2
theorem c_vwhole (S : hVil G R K n v) (C : cV I v s.1) (O : okD s) (hQ : Q (some (.int (if whV s.1 = true then 1 else 0))) (I, J, R, K, n)) : zC G (d + 2) mX10_isWhole 0 0 [.ref v] (I, J, R, K, n) Q := by
  have o6 := O.1.1
  have o9 := O.2.1
  have loop : ∀ (j i : Nat), i + j = s.1.2.2.1 → (∀ p, p < i → s.1.2.2.2.1 (3 * p) < s.1.1 ∧ s.1.2.2.2.1 (3 * p + 1) < s.1.1 ∧ s.1.2.2.2.1 (3 * p) ≠ s.1.2.2.2.1 (3 * p + 1)) → zV G (d + 2) mX10_isWhole 0 0 2 [(0, .ref v), (1, .int (nI i))] [] (I, J, R, K, n) Q := by
    intro j
    induction j with
    | zero =>
      intro i hi hw
      refine wX10_isWhole_2 v S _ ?_
      rw [C.2.1, tk_le (by omega) (by omega), C.1.1, show (0 : Int32) = nI 0 from rfl]
      refine ⟨fun _ => qI ?_ hQ, fun h => absurd (show s.1.2.2.1 ≤ i by omega) h⟩
      have e : whV s.1 = true ↔ 0 < s.1.1 := by
        unfold whV
        rw [decide_eq_true_iff]
        exact ⟨fun h => h.1, fun h => ⟨h, fun p hp => hw p (by omega)⟩⟩
      by_cases h : 0 < s.1.1
      · rw [if_pos (e.mpr h), if_neg (by rw [tk_le (by omega) (by omega)]; omega)]
      · rw [if_neg (fun h2 => h (e.mp h2)), if_pos (by rw [tk_le (by omega) (by omega)]; omega)]; rfl
    | succ j ih =>
      intro i hi hw
      obtain ⟨c1, c2, c3⟩ := C.2.2.2.2 i (by omega)
      obtain ⟨b1, b2, -⟩ := O.2.2.2.2.1 i (by omega)
      have ini : vp_in (nI i) 9 := (tk_in (by omega) (by omega)).mpr (by omega)
      have bad : ¬ (s.1.2.2.2.1 (3 * i) < s.1.1 ∧ s.1.2.2.2.1 (3 * i + 1) < s.1.1 ∧ s.1.2.2.2.1 (3 * i) ≠ s.1.2.2.2.1 (3 * i + 1)) → Q (some (.int 0)) (I, J, R, K, n) := fun h => by
        have e : ¬ whV s.1 = true := by
          unfold whV
          rw [decide_eq_true_iff]
          exact fun h2 => h (h2.2 i (by omega))
        rw [if_neg e] at hQ
        exact hQ
      refine wX10_isWhole_2 v S _ ?_
      rw [C.2.1, tk_le (by omega) (by omega), tk_c (by omega), c1, nI_1]
      refine ⟨fun h => absurd h (by omega), fun _ => ⟨ini, ?_⟩⟩
      by_cases f1 : s.1.2.2.2.1 (3 * i) < s.1.1
      · refine c_vf_y S C.1.1 o6 f1 ?_
        refine ⟨_, _, rfl, rfl, ?_⟩
        refine ⟨fun h => absurd h (by decide), fun _ => ⟨ini, ?_⟩⟩
        rw [c2]
        by_cases f2 : s.1.2.2.2.1 (3 * i + 1) < s.1.1
        · refine c_vf_y S C.1.1 o6 f2 ?_
          refine ⟨_, _, rfl, rfl, ?_⟩
          refine ⟨fun h => absurd h (by decide), fun _ => ⟨ini, ini, ?_⟩⟩
          rw [c1, c2, tk_eq (by omega) (by omega)]
          refine ⟨fun h => bad (fun h2 => h2.2.2 h), fun h => ih (i + 1) (by omega) (fun p hp => ?_)⟩
          by_cases ep : p = i
          · rw [ep]; exact ⟨f1, f2, h⟩
          · exact hw p (by omega)
        · refine c_vf_n S C.1.1 (Or.inr ((tk_le (by omega) (by omega)).mpr (by omega))) ?_
          refine ⟨_, _, rfl, rfl, ?_⟩
          exact ⟨fun _ => bad (fun h => f2 h.2.1), fun h => absurd rfl h⟩
      · refine c_vf_n S C.1.1 (Or.inr ((tk_le (by omega) (by omega)).mpr (by omega))) ?_
        refine ⟨_, _, rfl, rfl, ?_⟩
        exact ⟨fun _ => bad (fun h => f1 h.1), fun h => absurd rfl h⟩
  refine zC.of (by decide) (Nat.le_of_ble_eq_true rfl) ?_
  refine wX10_isWhole_0 v S ?_
  exact loop s.1.2.2.1 0 (by omega) (fun p hp => absurd hp (by omega))
theorem c_vread (S : hVil G R K n v) (S1 : hTape G R K n t) (hv : t + 1 < v) (V : TP I t ln tx) (h1 : ∀ I' vl, (villP tx ln).2 = some vl → vFv t v I I' → cV I' v vl → Q (some (.int 1)) (I', J, R, K, n)) (h0 : ∀ I', (villP tx ln).2 = none → vFv t v I I' → I' t 2 = nI (villP tx ln).1 → Q (some (.int 0)) (I', J, R, K, n)) : zC G (d + 8) mX10_read 0 0 [.ref v, .ref t] (I, J, R, K, n) Q := by
  have v1 := V.1
  have loop : ∀ (j i p : Nat) (s : Vt × Bool) (I2 : Nat → Nat → Int32), ln < p + j → 2 * i ≤ p → p ≤ ln → vFv t v I I2 → I2 t 2 = nI p → cD I2 v s → okD s → (∀ I' vl, (vlP tx ln j p s).2 = some vl → vFv t v I I' → cV I' v vl → Q (some (.int 1)) (I', J, R, K, n)) → (∀ I', (vlP tx ln j p s).2 = none → vFv t v I I' → I' t 2 = nI (vlP tx ln j p s).1 → Q (some (.int 0)) (I', J, R, K, n)) → zV G (d + 8) mX10_read 0 0 34 [(0, .ref v), (1, .ref t), (2, .int (nI i))] [] (I2, J, R, K, n) Q := by
    intro j
    induction j with
    | zero => intro i p s I2 h1 h2 h3; omega
    | succ j ih =>
      intro i p s I2 hj hi hp F2 e2 C2 O h1 h0
      obtain ⟨a, bb⟩ := vcP_ok (tx := tx) hp O
      have ga := sk_le (tx := tx) a
      have gg := sk_ge (tx := tx) (ln := ln) (p := (vcP tx ln p s).1)
      refine wX10_read_34 v t S S1 _ ⟨fun h => ?_, fun _ => ?_⟩
      · rw [show (240 : Int32) = nI 240 from rfl, tk_le (by omega) (by omega)] at h
        omega
      refine c_vclause S S1 hv (F2.tp V hv) hp e2 C2 O (fun I3 s' hs F3 e3 C3 => ?_) (fun I3 hs F3 e3 => ?_)
      · obtain ⟨b1, b2⟩ := bb s' hs
        have FF : vFv t v I I3 := fun b k g1 g2 => by rw [F3 b k g1 g2, F2 b k g1 g2]
        rw [vlP, hs] at h1 h0
        simp only at h1 h0
        refine ⟨_, _, rfl, rfl, fun h => absurd h (by decide), fun _ => ?_⟩
        refine c_nextE S1 (FF.tp V hv) a e3 ?_
        refine ⟨_, _, rfl, rfl, ?_⟩
        obtain ⟨I4, q4⟩ : ∃ I4, I4 = zU I3 t 2 (nI (sk tx ln (vcP tx ln p s).1)) := ⟨_, rfl⟩
        rw [← q4]
        have F4 : ∀ b k, ¬ (b = t ∧ k = 2) → I4 b k = I3 b k := fun b k g => by rw [q4, zU_ne g]
        have FF4 : vFv t v I I4 := fun b k g1 g2 => by rw [F4 b k g1, FF b k g1 g2]
        have e4 : I4 t 2 = nI (sk tx ln (vcP tx ln p s).1) := by rw [q4, zU_self]
        have C4 : cD I4 v s' := by
          unfold cD
          rw [F4 v 9 (by omega)]
          exact ⟨C3.1.same (fun b b1 b2 => funext fun k => F4 b k (by omega)), C3.2⟩
        refine ⟨fun hl => ?_, fun hl => ?_⟩
        · rw [if_pos hl] at h1 h0
          refine c_vwhole S C4.1 b2 ?_
          refine ⟨_, _, rfl, rfl, ?_⟩
          by_cases hw : whV s'.1 = true
          · rw [if_pos hw] at h1 ⊢
            exact ⟨Or.inr rfl, h1 I4 _ rfl FF4 C4.1⟩
          · rw [if_neg hw] at h0 ⊢
            exact ⟨Or.inl rfl, h0 I4 rfl FF4 e4⟩
        · rw [if_neg hl] at h1 h0
          refine c_acceptE S1 (FF4.tp V hv) ga e4 (fun h59 => ?_) (fun h59 => ?_)
          · rw [lk_sk] at h59
            rw [if_pos h59] at h1 h0
            have hlt := lk_lt (p := (vcP tx ln p s).1) (tx := tx) (ln := ln) (by rw [h59]; decide)
            refine ⟨_, _, rfl, rfl, fun h => absurd h (by decide), fun _ => ?_⟩
            rw [nI_1, sk_sk]
            refine ih (i + 1) _ s' _ (by omega) (by omega) (by omega) (fun b k g1 g2 => by rw [zU_ne g1, FF4 b k g1 g2]) (zU_self ..) ?_ b2 h1 h0
            unfold cD
            rw [zU_ne (by omega)]
            exact ⟨C4.1.same (fun b b1 b2 => funext fun k => zU_ne (by omega)), C4.2⟩
          · rw [lk_sk] at h59
            rw [if_neg h59] at h0
            refine ⟨_, _, rfl, rfl, fun _ => h0 _ rfl (fun b k g1 g2 => by rw [zU_ne g1, FF4 b k g1 g2]) ?_, fun h => absurd rfl h⟩
            rw [zU_self, sk_sk]
      · rw [vlP, hs] at h0
        exact ⟨_, _, rfl, rfl, fun _ => h0 I3 rfl (fun b k g1 g2 => by rw [F3 b k g1 g2, F2 b k g1 g2]) e3, fun h => absurd rfl h⟩
  refine zC.of (by decide) (Nat.le_of_ble_eq_true rfl) ?_
  refine wX10_read_0 v t S S1 ?_
  intro I1 q1 I2 q2 I3 q3 I4 q4 I5 q5 I6 q6
  refine loop (ln + 1) 0 0 vl0 I6 (by omega) (by omega) (by omega) (fun b k g1 g2 => by rw [q6, zU_off (by omega), q5, zU_off (by omega), q4, zU_off (by omega), q3, zU_off (by omega), q2, zU_off (by omega), q1, zU_ne g1]) (by rw [q6, zU_off (by omega), q5, zU_off (by omega), q4, zU_off (by omega), q3, zU_off (by omega), q2, zU_off (by omega), q1, zU_self]; rfl) ⟨⟨⟨?_, fun f hf => absurd hf (Nat.not_lt_zero f)⟩, ?_, ?_, ?_, fun f hf => absurd hf (Nat.not_lt_zero f)⟩, ?_⟩ okD0 h1 h0
  · rw [q6, zU_ne (by omega), q5, zU_ne (by omega), q4, zU_ne (by omega), q3, zU_ne (by omega), q2, zU_self]; rfl
  · rw [q6, zU_ne (by omega), q5, zU_ne (by omega), q4, zU_ne (by omega), q3, zU_self]; rfl
  · rw [q6, zU_ne (by omega), q5, zU_ne (by omega), q4, zU_self]; rfl
  · rw [q6, zU_ne (by omega), q5, zU_self]; rfl
  · rw [q6, zU_self]; rfl
end
