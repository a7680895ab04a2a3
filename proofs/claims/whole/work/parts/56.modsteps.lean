/-! THE MODEL'S ROWS: steps; rows that can be stay so -/
section
variable {nf B : Nat} {Y T : Nat → Nat} {Wc : Nat → Nat → Nat → Nat → Nat → Nat → Nat}
theorem okT.up45 (O : okT B nf Y T) (W : okV nf Y) {x : Nat} (h : x ≤ 999) : okT B nf Y (up T 45 x) := by
  obtain ⟨o1, o2, o3, o4, o5, o6, o7, o8, o9, oB⟩ := O
  refine ⟨fun p hp => ?_, fun f hf => ?_, fun f hf hn => ?_, fun f hf => ?_, ?_, ?_, ?_, ?_, ?_, oB⟩
  · rw [up_ne (by omega), up_ne (by omega), up_ne (by omega)]; exact o1 p hp
  · have h6 := W.1
    rw [up_ne (by omega), up_ne (by omega)]; exact o2 f hf
  · rw [up_ne (by omega), up_ne (by omega)]; exact o3 f hf hn
  · rw [up_ne (by omega)]; exact o4 f hf
  · rw [up_at]; exact h
  · rw [up_ne (by omega)]; exact o6
  · rw [up_ne (by omega)]; exact o7
  · rw [up_ne (by omega)]; exact o8
  · rw [up_ne (by omega)]; exact o9
theorem okT.wide (O : okT B nf Y T) {B' : Nat} (h : B ≤ B') (h2 : B' < 100000) : okT B' nf Y T := by
  obtain ⟨o1, o2, o3, o4, o5, o6, o7, o8, o9, oB⟩ := O
  exact ⟨o1, o2, o3, fun f hf => Nat.le_trans (o4 f hf) h, o5, o6, o7, o8, o9, h2⟩
theorem okT.paint (O : okT B nf Y T) (W : okV nf Y) (hB : B + 1 < 100000) {p : Nat} (hp : p < 9) (ho : 0 < T (3 * p + 2)) : okT (B + 1) nf Y (paintT Wc Y T p) := by
  have h6 := W.1
  obtain ⟨p2, p3, -⟩ := (O.1 p hp).2 ho
  have hy := yardsA_le (Wc := Wc) (Y := Y) (T := T) (p := p)
  obtain ⟨o1, o2, o3, o4, o5, o6, o7, o8, o9, oB⟩ := O
  unfold paintT
  refine ⟨fun q hq => ?_, fun f hf => ?_, fun f hf hn => ?_, fun f hf => ?_, ?_, ?_, ?_, ?_, ?_, hB⟩
  · rw [up_ne (by omega), up_ne (by omega), up_ne (by omega), up_ne (by omega), up_ne (by omega), up_ne (by omega), up_ne (by omega), up_ne (by omega), up_ne (by omega)]
    exact o1 q hq
  · have h2 := o2 f hf
    rw [up_ne (j := 27 + 3 * f) (by omega), up_ne (j := 27 + 3 * f) (by omega), up_ne (j := 28 + 3 * f) (by omega), up_ne (j := 28 + 3 * f) (by omega), up_ne (j := 28 + 3 * f) (by omega)]
    by_cases e : f = T (3 * p + 1)
    · subst e
      rw [up_at]
      have h3 := hy.1
      unfold bareA at h3
      omega
    · rw [up_ne (by omega)]; exact h2
  · rw [up_ne (by omega), up_ne (by omega), up_ne (by omega), up_ne (by omega), up_ne (by omega), up_ne (by omega)]
    exact o3 f hf hn
  · by_cases e : f = T (3 * p)
    · subst e; rw [up_at]; have := o4 _ hf; omega
    · rw [up_ne (by omega), up_ne (by omega), up_ne (by omega)]; have := o4 f hf; omega
  · rw [up_ne (by omega), up_ne (by omega), up_ne (by omega)]; exact o5
  · rw [up_ne (by omega), up_ne (by omega), up_ne (by omega)]; exact o6
  · rw [up_ne (by omega), up_at]; omega
  · rw [up_ne (by omega), up_ne (by omega), up_ne (by omega)]; exact o8
  · rw [up_ne (by omega), up_ne (by omega), up_ne (by omega)]; exact o9
theorem okT.zero (O : okT B nf Y T) {p : Nat} (hp : p < 9) : okT B nf Y (zeroT T p) := by
  obtain ⟨o1, o2, o3, o4, o5, o6, o7, o8, o9, oB⟩ := O
  refine ⟨fun q hq => ?_, fun f hf => ?_, fun f hf hn => ?_, fun f hf => ?_, ?_, ?_, ?_, ?_, ?_, oB⟩
  · by_cases e : q = p
    · subst e
      rw [zeroT_at (j := 3 * q + 2) (by omega) (by omega)]
      exact ⟨by omega, fun h => absurd h (by omega)⟩
    · rw [zeroT_ne (by omega), zeroT_ne (by omega), zeroT_ne (by omega)]; exact o1 q hq
  · rw [zeroT_ne (by omega), zeroT_ne (by omega)]; exact o2 f hf
  · rw [zeroT_ne (by omega), zeroT_ne (by omega)]; exact o3 f hf hn
  · rw [zeroT_ne (by omega)]; exact o4 f hf
  · rw [zeroT_ne (by omega)]; exact o5
  · rw [zeroT_ne (by omega)]; exact o6
  · rw [zeroT_ne (by omega)]; exact o7
  · rw [zeroT_ne (by omega)]; exact o8
  · rw [zeroT_ne (by omega)]; exact o9
theorem okT.pardon (O : okT B nf Y T) (W : okV nf Y) (hB : B + 1 < 100000) {p : Nat} (hp : p < 9) (ho : 0 < T (3 * p + 2)) : okT (B + 1) nf Y (pardonT Wc Y T p) :=
  ((O.paint W hB hp ho).zero hp).up45 W (Nat.min_le_left _ _)
theorem okT.daub (O : okT B nf Y T) (W : okV nf Y) {f k : Nat} (hf : f < nf) (hl : k ≤ T 47) (hb : k ≤ bareA Y T f) : okT B nf Y (daubT T f k) := by
  have h6 := W.1
  obtain ⟨o1, o2, o3, o4, o5, o6, o7, o8, o9, oB⟩ := O
  unfold daubT
  refine ⟨fun q hq => ?_, fun g hg => ?_, fun g hg hn => ?_, fun g hg => ?_, ?_, ?_, ?_, ?_, ?_, oB⟩
  · rw [up_ne (by omega), up_ne (by omega), up_ne (by omega), up_ne (by omega), up_ne (by omega), up_ne (by omega)]; exact o1 q hq
  · have h2 := o2 g hg
    rw [up_ne (j := 27 + 3 * g) (by omega), up_ne (j := 27 + 3 * g) (by omega), up_ne (j := 28 + 3 * g) (by omega)]
    by_cases e : g = f
    · subst e; rw [up_at]; unfold bareA at hb; omega
    · rw [up_ne (by omega)]; exact h2
  · rw [up_ne (by omega), up_ne (by omega), up_ne (by omega), up_ne (by omega)]; exact o3 g hg hn
  · rw [up_ne (by omega), up_ne (by omega)]; exact o4 g hg
  · rw [up_ne (by omega), up_ne (by omega)]; exact o5
  · rw [up_ne (by omega), up_ne (by omega)]; exact o6
  · rw [up_at]; omega
  · rw [up_ne (by omega), up_ne (by omega)]; exact o8
  · rw [up_ne (by omega), up_ne (by omega)]; exact o9
theorem okT.thumb (O : okT B nf Y T) (W : okV nf Y) {f : Nat} (hf : f < nf) : okT B nf Y (thumbT T f) := by
  have h6 := W.1
  obtain ⟨o1, o2, o3, o4, o5, o6, o7, o8, o9, oB⟩ := O
  unfold thumbT
  refine ⟨fun q hq => ?_, fun g hg => ?_, fun g hg hn => ?_, fun g hg => ?_, ?_, ?_, ?_, ?_, ?_, oB⟩
  · rw [up_ne (by omega), up_ne (by omega), up_ne (by omega), up_ne (by omega), up_ne (by omega), up_ne (by omega)]; exact o1 q hq
  · have h2 := o2 g hg
    rw [up_ne (j := 27 + 3 * g) (by omega), up_ne (j := 27 + 3 * g) (by omega), up_ne (j := 28 + 3 * g) (by omega)]
    by_cases e : g = f
    · subst e; rw [up_at]; omega
    · rw [up_ne (by omega)]; exact h2
  · rw [up_ne (by omega), up_ne (by omega), up_ne (by omega), up_ne (by omega)]; exact o3 g hg hn
  · rw [up_ne (by omega), up_ne (by omega)]; exact o4 g hg
  · rw [up_ne (by omega), up_ne (by omega)]; exact o5
  · rw [up_ne (by omega), up_ne (by omega)]; exact o6
  · rw [up_ne (by omega), up_ne (by omega)]; exact o7
  · rw [up_at]; omega
  · rw [up_ne (by omega), up_ne (by omega)]; exact o9
theorem okT.day (O : okT B nf Y T) (W : okV nf Y) (h : T 49 < 1200) : okT B nf Y (dayT nf Y T) := by
  have h6 := W.1
  obtain ⟨o1, o2, o3, o4, o5, o6, o7, o8, o9, oB⟩ := O.wornT W
  unfold dayT
  refine ⟨fun q hq => ?_, fun g hg => ?_, fun g hg hn => ?_, fun g hg => ?_, ?_, ?_, ?_, ?_, ?_, oB⟩
  · rw [up_ne (by omega), up_ne (by omega), up_ne (by omega), up_ne (by omega), up_ne (by omega), up_ne (by omega)]; exact o1 q hq
  · rw [up_ne (by omega), up_ne (by omega), up_ne (by omega), up_ne (by omega)]; exact o2 g hg
  · rw [up_ne (by omega), up_ne (by omega), up_ne (by omega), up_ne (by omega)]; exact o3 g hg hn
  · rw [up_ne (by omega), up_ne (by omega)]; exact o4 g hg
  · rw [up_ne (by omega), up_ne (by omega)]; exact o5
  · rw [up_ne (by omega), up_ne (by omega)]; exact o6
  · rw [up_ne (by omega), up_ne (by omega)]; exact o7
  · rw [up_ne (by omega), up_at]; omega
  · rw [up_at]; omega
theorem okT.sin (O : okT B nf Y T) {p x y z : Nat} (hp : p < 9) (hx : x < nf) (hy : y < nf) (hxy : x ≠ y) (hz : z ≤ 9) : okT B nf Y (sinT T p x y z) := by
  obtain ⟨o1, o2, o3, o4, o5, o6, o7, o8, o9, oB⟩ := O
  refine ⟨fun q hq => ?_, fun g hg => ?_, fun g hg hn => ?_, fun g hg => ?_, ?_, ?_, ?_, ?_, ?_, oB⟩
  · by_cases e : q = p
    · subst e
      have e1 : sinT T q x y z (3 * q + 2) = z := up_at
      have e2 : sinT T q x y z (3 * q) = x := by unfold sinT; rw [up_ne (by omega), up_ne (by omega), up_at]
      have e3 : sinT T q x y z (3 * q + 1) = y := by unfold sinT; rw [up_ne (by omega), up_at]
      rw [e1, e2, e3]
      exact ⟨hz, fun _ => ⟨hx, hy, hxy⟩⟩
    · rw [sinT_ne (by omega), sinT_ne (by omega), sinT_ne (by omega)]; exact o1 q hq
  · rw [sinT_ne (by omega), sinT_ne (by omega)]; exact o2 g hg
  · rw [sinT_ne (by omega), sinT_ne (by omega)]; exact o3 g hg hn
  · rw [sinT_ne (by omega)]; exact o4 g hg
  · rw [sinT_ne (by omega)]; exact o5
  · rw [sinT_ne (by omega)]; exact o6
  · rw [sinT_ne (by omega)]; exact o7
  · rw [sinT_ne (by omega)]; exact o8
  · rw [sinT_ne (by omega)]; exact o9
theorem okT.up47 (O : okT B nf Y T) (W : okV nf Y) {x : Nat} (h : x ≤ 999) : okT B nf Y (up T 47 x) := by
  obtain ⟨o1, o2, o3, o4, o5, o6, o7, o8, o9, oB⟩ := O
  refine ⟨fun p hp => ?_, fun f hf => ?_, fun f hf hn => ?_, fun f hf => ?_, ?_, ?_, ?_, ?_, ?_, oB⟩
  · rw [up_ne (by omega), up_ne (by omega), up_ne (by omega)]; exact o1 p hp
  · have h6 := W.1
    rw [up_ne (by omega), up_ne (by omega)]; exact o2 f hf
  · rw [up_ne (by omega), up_ne (by omega)]; exact o3 f hf hn
  · rw [up_ne (by omega)]; exact o4 f hf
  · rw [up_ne (by omega)]; exact o5
  · rw [up_ne (by omega)]; exact o6
  · rw [up_at]; exact h
  · rw [up_ne (by omega)]; exact o8
  · rw [up_ne (by omega)]; exact o9
theorem okT.up48 (O : okT B nf Y T) (W : okV nf Y) {x : Nat} (h : x ≤ 999) : okT B nf Y (up T 48 x) := by
  obtain ⟨o1, o2, o3, o4, o5, o6, o7, o8, o9, oB⟩ := O
  refine ⟨fun p hp => ?_, fun f hf => ?_, fun f hf hn => ?_, fun f hf => ?_, ?_, ?_, ?_, ?_, ?_, oB⟩
  · rw [up_ne (by omega), up_ne (by omega), up_ne (by omega)]; exact o1 p hp
  · have h6 := W.1
    rw [up_ne (by omega), up_ne (by omega)]; exact o2 f hf
  · rw [up_ne (by omega), up_ne (by omega)]; exact o3 f hf hn
  · rw [up_ne (by omega)]; exact o4 f hf
  · rw [up_ne (by omega)]; exact o5
  · rw [up_ne (by omega)]; exact o6
  · rw [up_ne (by omega)]; exact o7
  · rw [up_at]; exact h
  · rw [up_ne (by omega)]; exact o9
end
section
variable {G : zG} {d : Nat} {I : Nat → Nat → Int32} {J : Nat → Nat → Int64} {R : Nat → Nat → Option Nat} {K : Nat → Nat × Nat} {n : Nat} {m t c b nf B nl : Nat} {Y T : Nat → Nat} {tl : Nat → Nat} {tt : Nat → Nat → Nat} {cd : Nat → List Int32} {Wc : Nat → Nat → Nat → Nat → Nat → Nat → Nat} {Q : Option Value → zH → Prop}
theorem c_mcanStep (S : hMod G R K n m t c) (hb : sA G K n b 32 231) (V : VM I m nf Y) (W : okV nf Y) (C : MR I b T) (O : okT B nf Y T) {k i : Nat} {P : Nat → Int32} (hk : k < 5) (hi : i < 16) (x1 : I (m + 11) (3 * (16 * k + i)) = P (3 * i)) (x2 : I (m + 11) (3 * (16 * k + i) + 1) = P (3 * i + 1)) (x3 : I (m + 11) (3 * (16 * k + i) + 2) = P (3 * i + 2)) (x4 : P (3 * i) = 0 ∨ P (3 * i) = 1 ∨ P (3 * i) = 2 ∨ P (3 * i) = 3) (h1 : canStep nf Y T (P (3 * i)) (P (3 * i + 1)) (P (3 * i + 2)) → Q (some (.int 1)) (I, J, R, K, n)) (h0 : ¬ canStep nf Y T (P (3 * i)) (P (3 * i + 1)) (P (3 * i + 2)) → Q (some (.int 0)) (I, J, R, K, n)) : zC G (d + 4) mX12_canStep 0 0 [.ref m, .ref b, .int (nI (3 * (16 * k + i)))] (I, J, R, K, n) Q := by
  have o := O.2.2.2.2
  have hin : ∀ x, x < 240 → vp_in (nI x) 240 := fun x hx => (tk_in (by omega) (by omega)).mpr hx
  refine zC.of (by decide) (Nat.le_of_ble_eq_true rfl) ?_
  refine wX12_canStep_0 m t c b hb S _ ?_
  rw [nI_1, show (nI (3 * (16 * k + i)) + 2 : Int32) = nI (3 * (16 * k + i) + 2) from nI_add _ 2, tk_c (by omega), tk_c (by omega), tk_c (by omega), x1, x2, x3]
  unfold canStep at h1 h0
  refine ⟨hin _ (by omega), hin _ (by omega), fun h => ?_, fun h => ⟨hin _ (by omega), ?_⟩, fun h => ?_, fun g0 g1 g2 => ?_⟩
  · rw [h] at h1 h0
    rcases shut_or T (P (3 * i + 1)) with hs | ⟨p, hp, e, ho⟩
    · refine c_mo_n hb C hs ?_
      refine ⟨_, _, rfl, rfl, ?_⟩
      refine ⟨Or.inl rfl, h0 ?_⟩
      rintro (h | h | h | h)
      · exact h.2 hs
      · exact absurd h.1 (by decide)
      · exact absurd h.1 (by decide)
      · exact absurd h.1 (by decide)
    · rw [e] at h1 ⊢
      refine c_mo_y hb C O hp ho ?_
      refine ⟨_, _, rfl, rfl, ?_⟩
      have hns : ¬ shut T (nI p) := by
        rintro (hb | ⟨j, hj, e2, hz⟩)
        · exact bad_not (by omega) hp hb
        · rw [tk_eq (by omega) (by omega)] at e2
          subst e2
          omega
      exact ⟨Or.inr rfl, h1 (Or.inl ⟨rfl, hns⟩)⟩
  · rw [h] at h1 h0
    refine c_canPaint S hb V W C O (fun hc => ⟨_, _, rfl, rfl, Or.inr rfl, h1 (Or.inr (Or.inl ⟨rfl, hc⟩))⟩) (fun hc => ⟨_, _, rfl, rfl, Or.inl rfl, h0 ?_⟩)
    rintro (h | h | h | h)
    · exact absurd h.1 (by decide)
    · exact hc h.2
    · exact absurd h.1 (by decide)
    · exact absurd h.1 (by decide)
  · rw [h] at h1 h0
    refine c_canInspect S hb V W C O (fun hc => ⟨_, _, rfl, rfl, Or.inr rfl, h1 (Or.inr (Or.inr (Or.inl ⟨rfl, hc⟩)))⟩) (fun hc => ⟨_, _, rfl, rfl, Or.inl rfl, h0 ?_⟩)
    rintro (h | h | h | h)
    · exact absurd h.1 (by decide)
    · exact absurd h.1 (by decide)
    · exact hc h.2
    · exact absurd h.1 (by decide)
  · have h3 : P (3 * i) = 3 := by
      rcases x4 with h | h | h | h
      · exact absurd h g0
      · exact absurd h g1
      · exact absurd h g2
      · exact h
    rw [h3] at h1 h0
    rw [show (49 : Int32).toNatClampNeg = 49 from rfl, C 49 (by omega)]
    refine ⟨(tk_in (n := 49) (by omega) (by omega)).mpr (by omega), ?_⟩
    by_cases hd : T 49 < 999
    · rw [if_neg (by rw [show (999 : Int32) = nI 999 from rfl, tk_le (by omega) (by omega)]; omega)]
      exact h1 (Or.inr (Or.inr (Or.inr ⟨rfl, hd⟩)))
    · rw [if_pos (by rw [show (999 : Int32) = nI 999 from rfl, tk_le (by omega) (by omega)]; omega)]
      refine h0 ?_
      rintro (h | h | h | h)
      · exact absurd h.1 (by decide)
      · exact absurd h.1 (by decide)
      · exact absurd h.1 (by decide)
      · exact hd h.2
/-- the log of a row behind a day -/
def logT (j j' : Nat) (g g' : Nat → Int32) (nf : Nat) (Y T : Nat → Nat) : Prop := (j < 60 → j' = j) ∧ (j = 60 → j' = 59) ∧ g' 50 = nI (j' + 1) ∧ (∀ i w, i < j' → w < 3 → g' (51 + 3 * i + w) = g (51 + 3 * (i + (j - j')) + w)) ∧ (∀ w, w < 3 → g' (51 + 3 * j' + w) = nI (entA nf Y T w))
theorem c_mgoStep (S : hMod G R K n m t c) (hb : sA G K n b 32 231) (hbm : b = m + 13 ∨ b = m + 14) (L : LMo I J m nl tl tt cd) (H : HLD I m nl cd Wc) (V : VM I m nf Y) (W : okV nf Y) (C : MR I b T) (O : okT B nf Y T) {j : Nat} (hj : j ≤ 60) (h50 : I b 50 = nI j) {k i : Nat} {P : Nat → Int32} (hk : k < 5) (hi : i < 16) (x1 : I (m + 11) (3 * (16 * k + i)) = P (3 * i)) (x2 : I (m + 11) (3 * (16 * k + i) + 1) = P (3 * i + 1)) (x3 : I (m + 11) (3 * (16 * k + i) + 2) = P (3 * i + 2)) (hc : canStep nf Y T (P (3 * i)) (P (3 * i + 1)) (P (3 * i + 2)))
    (hQ : ∀ I' J' R' t' c', hMod G R' K n m t' c' → LMo I' J' m nl tl tt cd → FMo (fun q => q = b) m I I' J J' R R' → MR I' b (stepT Wc nf Y T (P (3 * i)) (P (3 * i + 1)) (P (3 * i + 2))) → (P (3 * i) ≠ 3 → ∀ x, 50 ≤ x → I' b x = I b x) → (P (3 * i) = 3 → ∃ j', logT j j' (I b) (I' b) nf Y T) → Q (some (.int (nI (stepY Wc Y T (P (3 * i)) (P (3 * i + 1)))))) (I', J', R', K, n)) : zC G (d + 37) mX12_goStep 0 0 [.ref m, .ref b, .int (nI (3 * (16 * k + i)))] (I, J, R, K, n) Q := by
  have o := O.2.2.2.2
  have h6 := W.1
  have hin : ∀ x, x < 240 → vp_in (nI x) 240 := fun x hx => (tk_in (by omega) (by omega)).mpr hx
  have Fp : ∀ I', (∀ q, q ≠ b → I' q = I q) → FMo (fun q => q = b) m I I' J J R R := fun I' f => ⟨fun q a1 _ _ _ => f q a1, fun k _ => by rw [f m (by omega)], fun _ _ => rfl, fun _ _ => rfl, fun _ _ => rfl⟩
  have Lp : ∀ I', (∀ q, q ≠ b → I' q = I q) → LMo I' J m nl tl tt cd := fun I' f => by
    unfold LMo
    rw [f m (by omega), f (m + 2) (by omega), f (m + 3) (by omega), f (m + 4) (by omega), f (m + 16) (by omega)]
    exact L
  refine zC.of (by decide) (Nat.le_of_ble_eq_true rfl) ?_
  refine wX12_goStep_0 m t c b hb S _ ?_
  rw [nI_1, show (nI (3 * (16 * k + i)) + 2 : Int32) = nI (3 * (16 * k + i) + 2) from nI_add _ 2, tk_c (by omega), tk_c (by omega), tk_c (by omega), x1, x2, x3]
  unfold stepT stepY at hQ
  rcases hc with ⟨h, hns⟩ | ⟨h, f, q, e1, e2, hf, q1, q9, ql, qb⟩ | ⟨h, f, e1, hf, hz⟩ | ⟨h, hd⟩
  · rw [h] at hQ ⊢
    refine ⟨hin _ (by omega), hin _ (by omega), fun _ => ?_, fun h => absurd h (by decide), fun h => absurd h (by decide), fun h => absurd rfl h⟩
    rcases shut_or T (P (3 * i + 1)) with hs | ⟨p, hp, e, ho⟩
    · exact absurd hs hns
    · rw [e] at hQ ⊢
      refine c_forgives S hb hbm L H V W C O hp ho ?_
      intro I' J' R' t' c' S' L' F' C' k'
      refine ⟨_, _, _, _, rfl, rfl, _, _, S', ?_⟩
      have := hQ I' J' R' t' c' S' L' F'
      rw [if_pos rfl, if_pos rfl, tk_c (by omega)] at this
      exact this C' (fun _ => k') (fun h => absurd h (by decide))
  · rw [h, e1, e2] at hQ ⊢
    refine ⟨hin _ (by omega), hin _ (by omega), fun h => absurd h (by decide), fun _ => ⟨hin _ (by omega), ?_⟩, fun h => absurd h (by decide), fun _ h => absurd rfl h⟩
    refine c_paints hb C (f := f) (k := q) (by omega) ql ?_
    intro I' C' k' f'
    refine ⟨_, rfl, rfl, ?_⟩
    have := hQ I' J R t c S (Lp I' f') (Fp I' f')
    rw [if_neg (by decide), if_pos rfl, if_neg (by decide), tk_c (by omega), tk_c (by omega)] at this
    exact this C' (fun _ => k') (fun h => absurd h (by decide))
  · rw [h, e1] at hQ ⊢
    have h4 := O.t W (f := f) (by omega)
    refine ⟨hin _ (by omega), hin _ (by omega), fun h => absurd h (by decide), fun h => absurd h (by decide), fun _ => ?_, fun _ _ h => absurd rfl h⟩
    refine c_inspects hb C (f := f) (by omega) (by omega) (by omega) ?_
    intro I' C' k' f'
    refine ⟨_, _, rfl, rfl, ?_⟩
    have := hQ I' J R t c S (Lp I' f') (Fp I' f')
    rw [if_neg (by decide), if_neg (by decide), if_pos rfl, if_neg (by decide), tk_c (by omega)] at this
    exact this C' (fun _ => k') (fun h => absurd h (by decide))
  · rw [h] at hQ ⊢
    refine ⟨hin _ (by omega), hin _ (by omega), fun h => absurd h (by decide), fun h => absurd h (by decide), fun h => absurd h (by decide), fun _ _ _ => ?_⟩
    refine c_goDay S hb hbm hj V W C O h50 ?_
    intro I' j' a1 a2 C' a3 a4 a5 f'
    refine ⟨_, _, rfl, rfl, ?_⟩
    have := hQ I' J R t c S (Lp I' f') (Fp I' f')
    rw [if_neg (by decide), if_neg (by decide), if_neg (by decide), if_neg (by decide)] at this
    exact this C' (fun h => absurd rfl h) (fun _ => ⟨j', a1, a2, a3, a4, a5⟩)
theorem c_copy {e : Nat} (hb : sA G K n b 32 231) (he : sA G K n e 32 231) (hbe : b ≠ e) (C : MR I b T) (hQ : ∀ I', MR I' e T → I' e 50 = nI 0 → (∀ q, q ≠ e → I' q = I q) → Q none (I', J, R, K, n)) : zC G (d + 1) mX12_copy 0 0 [.ref b, .ref e] (I, J, R, K, n) Q := by
  have hin : ∀ x, x < 231 → vp_in (nI x) 231 := fun x hx => (tk_in (by omega) (by omega)).mpr hx
  refine zC.of (by decide) (Nat.le_of_ble_eq_true rfl) ?_
  refine wX12_copy_0 b hb e he ?_
  have loop : ∀ (j k : Nat) (I1 : Nat → Nat → Int32), k + j = 50 → (∀ x, x < k → I1 e x = nI (T x)) → (∀ q, q ≠ e → I1 q = I q) → zV G (d + 1) mX12_copy 0 0 2 [(0, .ref b), (1, .ref e), (2, .int (nI k))] [] (I1, J, R, K, n) Q := by
    intro j
    induction j with
    | zero =>
      intro k I1 hk r1 f1
      obtain rfl : k = 50 := by omega
      refine wX12_copy_2 b hb e he _ ⟨fun _ => ⟨hin 50 (by omega), ?_⟩, fun h => absurd (by decide) h⟩
      intro I2 e2
      rw [show (50 : Int32).toNatClampNeg = 50 from rfl] at e2
      exact hQ I2 (fun x hx => by rw [e2, zU_ne (by omega)]; exact r1 x hx) (by rw [e2, zU_self]; rfl) (fun q hq => by rw [e2, zU_off hq]; exact f1 q hq)
    | succ j ih =>
      intro k I1 hk r1 f1
      refine wX12_copy_2 b hb e he _ ⟨fun h => ?_, fun _ => ?_⟩
      · rw [show (50 : Int32) = nI 50 from rfl, tk_le (by omega) (by omega)] at h
        omega
      · rw [tk_c (by omega), nI_1]
        refine ⟨hin _ (by omega), hin _ (by omega), ?_⟩
        intro I4 e4
        refine ih (k + 1) I4 (by omega) (fun x hx => ?_) (fun q hq => by rw [e4, zU_off hq]; exact f1 q hq)
        rw [e4, zU_a]
        by_cases hxk : x = k
        · subst hxk; rw [if_pos rfl, f1 b hbe]; exact C x (by omega)
        · rw [if_neg hxk]; exact r1 x (by omega)
  exact loop 50 0 I (by omega) (fun x hx => absurd hx (by omega)) (fun _ _ => rfl)
end
