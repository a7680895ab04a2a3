/-! WHAT A WRONG IS WORTH TO THE MODEL: its memory of that -/
def keyA (k h g b l d mn : Nat) : Nat := 100000 * (2000 * (1000 * (41 * (10 * (10 * (1 + k) + h) + g) + b) + l) + d) + mn
def rng (h g mn b l d : Nat) : Prop := h < 10 ∧ g < 10 ∧ mn < 100000 ∧ b < 41 ∧ l < 1000 ∧ d < 2000
theorem dm_eq {a q r q' r' : Nat} (h : a * q + r = a * q' + r') (hr : r < a) (hr' : r' < a) : q = q' ∧ r = r' := by
  have e1 := Nat.mul_add_mod a q r
  have e2 := Nat.mul_add_mod a q' r'
  rw [h, e2, Nat.mod_eq_of_lt hr, Nat.mod_eq_of_lt hr'] at e1
  subst e1
  refine ⟨Nat.eq_of_mul_eq_mul_left (show 0 < a by omega) (by omega), rfl⟩
theorem keyA_inj {k h g b l d mn k' h' g' b' l' d' mn' : Nat} (r : rng h g mn b l d) (r' : rng h' g' mn' b' l' d') (e : keyA k h g b l d mn = keyA k' h' g' b' l' d' mn') : k = k' ∧ h = h' ∧ g = g' ∧ b = b' ∧ l = l' ∧ d = d' ∧ mn = mn' := by
  obtain ⟨r1, r2, r3, r4, r5, r6⟩ := r
  obtain ⟨s1, s2, s3, s4, s5, s6⟩ := r'
  unfold keyA at e
  obtain ⟨e, e7⟩ := dm_eq e r3 s3
  obtain ⟨e, e6⟩ := dm_eq e r6 s6
  obtain ⟨e, e5⟩ := dm_eq e r5 s5
  obtain ⟨e, e4⟩ := dm_eq e r4 s4
  obtain ⟨e, e3⟩ := dm_eq e r2 s2
  obtain ⟨e, e2⟩ := dm_eq e r1 s1
  exact ⟨by omega, e2, e3, e4, e5, e6, e7⟩
theorem keyA_lt {k h g b l d mn : Nat} (hk : k < 4) (r : rng h g mn b l d) : keyA k h g b l d mn < 9000000000000000 ∧ 0 < keyA k h g b l d mn := by
  obtain ⟨r1, r2, r3, r4, r5, r6⟩ := r
  unfold keyA
  omega
theorem keyA_eq {k h g b l d mn : Nat} (hk : k < 4) (r : rng h g mn b l d) : ((100000 * (2000 * (1000 * (41 * (10 * (10 * (1 + (nI k).toInt64) + (nI h).toInt64) + (nI g).toInt64) + (nI b).toInt64) + (nI l).toInt64) + (nI d).toInt64) + (nI mn).toInt64) : Int64) = lN (keyA k h g b l d mn) := by
  obtain ⟨r1, r2, r3, r4, r5, r6⟩ := r
  rw [nI_l (by omega), nI_l (by omega), nI_l (by omega), nI_l (by omega), nI_l (by omega), nI_l (by omega), nI_l (by omega), show (100000 : Int64) = lN 100000 from rfl, show (2000 : Int64) = lN 2000 from rfl, show (1000 : Int64) = lN 1000 from rfl, show (41 : Int64) = lN 41 from rfl, show (10 : Int64) = lN 10 from rfl, show (1 : Int64) = lN 1 from rfl]
  simp only [lN_add, lN_mul]
  rfl
/-- what a law's code gives -/
def wv (cc : List Int32) (h g mn b l d : Nat) : Int32 := worthA (fun j => cc.getD j 0) cc.length (lets h g mn b l d)
/-- the laws that the model keeps: so many nl, texts (tl long), codes; what it remembers of them -/
def LMo (I : Nat → Nat → Int32) (J : Nat → Nat → Int64) (m nl : Nat) (tl : Nat → Nat) (tt : Nat → Nat → Nat) (cd : Nat → List Int32) : Prop :=
  nl ≤ 4 ∧ I m 7 = nI nl ∧ (∀ k, k < nl → tl k ≤ 240 ∧ I (m + 3) k = nI (tl k) ∧ (∃ q, plaw (tt k) (tl k) = (q, some (cd k))) ∧ ∀ j, j < tl k → I (m + 2) (240 * k + j) = sb (tt k j) ∧ 1 ≤ tt k j ∧ tt k j < 256) ∧
  (∀ k, k < 6 → I (m + 4) (chrA 3 k).toNatClampNeg ≠ Int32.minValue) ∧
  (∀ s, s < 8191 → J (m + 15) s = 0 ∨ ∃ k h g mn b l d, k < nl ∧ rng h g mn b l d ∧ J (m + 15) s = lN (keyA k h g b l d mn) ∧ I (m + 16) s = wv (cd k) h g mn b l d)
/-- nothing of the model's has changed but what going through a law changes, and A -/
def FMo (A : Nat → Prop) (m : Nat) (I I' : Nat → Nat → Int32) (J J' : Nat → Nat → Int64) (R R' : Nat → Nat → Option Nat) : Prop :=
  (∀ b, ¬ A b → b ≠ m → b ≠ m + 4 → b ≠ m + 16 → I' b = I b) ∧ (∀ k, k < 8 ∨ 17 < k → I' m k = I m k) ∧ (∀ b, b ≠ m + 15 → J' b = J b) ∧ (∀ b, b ≠ m → R' b = R b) ∧ (∀ k, k ≠ 5 → R' m k = R m k)
theorem FMo.rf {A : Nat → Prop} {m : Nat} {I : Nat → Nat → Int32} {J : Nat → Nat → Int64} {R : Nat → Nat → Option Nat} : FMo A m I I J J R R := ⟨fun _ _ _ _ _ => rfl, fun _ _ => rfl, fun _ _ => rfl, fun _ _ => rfl, fun _ _ => rfl⟩
theorem FMo.tr {A : Nat → Prop} {m : Nat} {I I' I'' : Nat → Nat → Int32} {J J' J'' : Nat → Nat → Int64} {R R' R'' : Nat → Nat → Option Nat} (h : FMo A m I I' J J' R R') (h' : FMo A m I' I'' J' J'' R' R'') : FMo A m I I'' J J'' R R'' :=
  ⟨fun b a1 a2 a3 a4 => (h'.1 b a1 a2 a3 a4).trans (h.1 b a1 a2 a3 a4), fun k hk => (h'.2.1 k hk).trans (h.2.1 k hk), fun b hb => (h'.2.2.1 b hb).trans (h.2.2.1 b hb), fun b hb => (h'.2.2.2.1 b hb).trans (h.2.2.2.1 b hb), fun k hk => (h'.2.2.2.2 k hk).trans (h.2.2.2.2 k hk)⟩
theorem FMo.wide {A A' : Nat → Prop} {m : Nat} {I I' : Nat → Nat → Int32} {J J' : Nat → Nat → Int64} {R R' : Nat → Nat → Option Nat} (h : FMo A m I I' J J' R R') (hA : ∀ b, A b → A' b) : FMo A' m I I' J J' R R' := ⟨fun b a1 => h.1 b (fun a => a1 (hA b a)), h.2⟩
theorem FMo.put {A : Nat → Prop} {m : Nat} {I I' : Nat → Nat → Int32} {J J' : Nat → Nat → Int64} {R R' : Nat → Nat → Option Nat} (h : FMo A m I I' J J' R R') {b k : Nat} {x : Int32} (hb : A b) (hm : b ≠ m) : FMo A m I (zU I' b k x) J J' R R' :=
  ⟨fun q a1 a2 a3 a4 => by rw [zU_off (fun e => a1 (by rw [e]; exact hb))]; exact h.1 q a1 a2 a3 a4, fun k hk => by rw [zU_off (fun e => hm e.symm)]; exact h.2.1 k hk, h.2.2⟩
theorem LMo.put {I : Nat → Nat → Int32} {J : Nat → Nat → Int64} {m nl : Nat} {tl : Nat → Nat} {tt : Nat → Nat → Nat} {cd : Nat → List Int32} (W : LMo I J m nl tl tt cd) {b k : Nat} {x : Int32} (h0 : b ≠ m) (h2 : b ≠ m + 2) (h3 : b ≠ m + 3) (h4 : b ≠ m + 4) (h16 : b ≠ m + 16) : LMo (zU I b k x) J m nl tl tt cd := by
  unfold LMo
  rw [zU_off (fun e => h0 e.symm), zU_off (fun e => h2 e.symm), zU_off (fun e => h3 e.symm), zU_off (fun e => h4 e.symm), zU_off (fun e => h16 e.symm)]
  exact W
/-- the law that holds, as the model has it -/
def HLD (I : Nat → Nat → Int32) (m nl : Nat) (cd : Nat → List Int32) (Wc : Nat → Nat → Nat → Nat → Nat → Nat → Nat) : Prop :=
  (I m 34 = -1 ∧ ∀ k g mn b l d, Wc k g mn b l d = plainW k g) ∨ (∃ k, k < nl ∧ I m 34 = nI k ∧ ∀ h g mn b l d, Wc h g mn b l d = clampN (wv (cd k) h g mn b l d))
theorem HLD.le {I : Nat → Nat → Int32} {m nl : Nat} {cd : Nat → List Int32} {Wc : Nat → Nat → Nat → Nat → Nat → Nat → Nat} (L : HLD I m nl cd Wc) (k g mn b l d : Nat) : Wc k g mn b l d ≤ 40 := by
  rcases L with ⟨-, h⟩ | ⟨q, -, -, h⟩
  · rw [h]; unfold plainW; omega
  · rw [h]; exact (clampN_eq _).2
theorem HLD.same {I I' : Nat → Nat → Int32} {m nl : Nat} {cd : Nat → List Int32} {Wc : Nat → Nat → Nat → Nat → Nat → Nat → Nat} (L : HLD I m nl cd Wc) (h : I' m 34 = I m 34) : HLD I' m nl cd Wc := by
  unfold HLD
  rw [h]
  exact L
theorem clampI_eq (x : Int32) : (if (0 : Int32) < (if (x : Int32) < 40 then x else 40) then (if (x : Int32) < 40 then x else 40) else 0) = clampI x := by
  unfold clampI
  have e0 : (0 : Int32).toInt = 0 := rfl
  have e4 : (40 : Int32).toInt = 40 := rfl
  by_cases h1 : x < 40
  · have h2 : ¬ (40 : Int32) < x := fun h => by rw [Int32.lt_iff_toInt_lt] at h h1; omega
    rw [if_pos h1, if_neg h2]
    by_cases h3 : x < 0
    · rw [if_pos h3, if_neg (fun h => by rw [Int32.lt_iff_toInt_lt] at h h3; omega)]
    · rw [if_neg h3]
      by_cases h4 : 0 < x
      · rw [if_pos h4]
      · rw [if_neg h4]
        apply Int32.toInt.inj
        rw [Int32.lt_iff_toInt_lt] at h3 h4
        omega
  · rw [if_neg h1, if_pos (by decide)]
    by_cases h2 : (40 : Int32) < x
    · rw [if_pos h2, if_neg (by decide)]
    · have e : x = 40 := by
        apply Int32.toInt.inj
        rw [Int32.lt_iff_toInt_lt] at h1 h2
        omega
      rw [if_neg h2, e, if_neg (by decide)]
section
variable {G : zG} {d : Nat} {I : Nat → Nat → Int32} {J : Nat → Nat → Int64} {R : Nat → Nat → Option Nat} {K : Nat → Nat × Nat} {n : Nat} {m t c b nf B nl : Nat} {Y T : Nat → Nat} {tl : Nat → Nat} {tt : Nat → Nat → Nat} {cd : Nat → List Int32} {Wc : Nat → Nat → Nat → Nat → Nat → Nat → Nat} {Q : Option Value → zH → Prop}
theorem c_worthOf {k h g mn bb l dd : Nat} (S : hMod G R K n m t c) (W : LMo I J m nl tl tt cd) (hk : k < nl) (h34 : I m 34 = nI k) (r : rng h g mn bb l dd) (hQ : ∀ I' J' R' t' c', hMod G R' K n m t' c' → LMo I' J' m nl tl tt cd → FMo aNo m I I' J J' R R' → Q (some (.int (wv (cd k) h g mn bb l dd))) (I', J', R', K, n)) : zC G (d + 33) mX12_worthOf 0 0 [.ref m, .int (nI h), .int (nI g), .int (nI mn), .int (nI bb), .int (nI l), .int (nI dd)] (I, J, R, K, n) Q := by
  have hnl := W.1
  have hk4 : k < 4 := by omega
  have hkey := keyA_lt hk4 r
  have hS := S
  refine zC.of (by decide) (Nat.le_of_ble_eq_true rfl) ?_
  refine wX12_worthOf_0 m t c S _ _ _ _ _ _ ?_
  rw [h34, keyA_eq hk4 r, show (8191 : Int64) = lN 8191 from rfl, pk_lRem (by omega) (by omega) (by omega), lN_i]
  have hsp : keyA k h g bb l dd mn % 8191 < 8191 := Nat.mod_lt _ (by decide)
  generalize hsd : keyA k h g bb l dd mn % 8191 = s at hsp ⊢
  have hin : vp_in (nI s) 8191 := (tk_in (by omega) (by omega)).mpr hsp
  rw [tk_c (by omega)]
  refine ⟨hin, fun h1 => ⟨hin, ?_⟩, fun h1 => ?_⟩
  · have h2 := (lg_cmp_eq _ _).mp h1
    rcases W.2.2.2.2 s hsp with h3 | ⟨k', h', g', mn', b', l', d', q1, q2, q3, q4⟩
    · rw [h3, show (0 : Int64) = lN 0 from rfl, pk_lEQ (by omega) (by omega)] at h2
      omega
    · have hkey' := keyA_lt (show k' < 4 by omega) q2
      rw [q3, pk_lEQ (by omega) (by omega)] at h2
      obtain ⟨rfl, rfl, rfl, rfl, rfl, rfl, rfl⟩ := keyA_inj q2 r h2
      rw [q4]
      exact hQ I J R t c S W FMo.rf
  · have i128 : ∀ x : Nat, x < 128 → vp_in (nI x) 128 := fun x hx => (tk_in (by omega) (by omega)).mpr hx
    refine ⟨i128 107 (by omega), ?_⟩
    intro I3 e3
    refine ⟨i128 103 (by omega), ?_⟩
    intro I4 e4
    refine ⟨i128 110 (by omega), ?_⟩
    intro I5 e5
    refine ⟨i128 98 (by omega), ?_⟩
    intro I6 e6
    refine ⟨i128 108 (by omega), ?_⟩
    intro I7 e7
    refine ⟨i128 100 (by omega), ?_⟩
    intro I8 e8
    have f8 : ∀ q, q ≠ m + 4 → I8 q = I q := fun q hq => by rw [e8, zU_off hq, e7, zU_off hq, e6, zU_off hq, e5, zU_off hq, e4, zU_off hq, e3, zU_off hq]
    have l8 : ∀ j, j < 6 → I8 (m + 4) (chrA 3 j).toNatClampNeg = lets h g mn bb l dd j := by
      intro j hj
      rw [e8, e7, e6, e5, e4, e3]
      simp only [zU_a]
      obtain rfl | rfl | rfl | rfl | rfl | rfl : j = 0 ∨ j = 1 ∨ j = 2 ∨ j = 3 ∨ j = 4 ∨ j = 5 := by omega
      all_goals rfl
    have hM : ∀ j, j < 6 → (fun j => I8 (m + 4) (chrA 3 j).toNatClampNeg) j ≠ Int32.minValue := by
      intro j hj
      simp only [l8 j hj]
      obtain ⟨r1, r2, r3, r4, r5, r6⟩ := r
      have hn : ∀ x : Nat, x < 100000 → nI x ≠ Int32.minValue := by
        intro x hx e
        have := congrArg Int32.toInt e
        rw [tk_t (by omega)] at this
        have e3 : Int32.minValue.toInt = -2147483648 := rfl
        rw [e3] at this
        omega
      unfold lets
      obtain rfl | rfl | rfl | rfl | rfl | rfl : j = 0 ∨ j = 1 ∨ j = 2 ∨ j = 3 ∨ j = 4 ∨ j = 5 := by omega
      · exact hn h (by omega)
      · exact hn g (by omega)
      · exact hn mn (by omega)
      · exact hn bb (by omega)
      · exact hn l (by omega)
      · exact hn dd (by omega)
    clear e3 e4 e5 e6 e7 e8
    obtain ⟨t1, t2, ⟨pq, t3⟩, t4⟩ := W.2.2.1 k hk
    rw [f8 m (by omega), h34, f8 (m + 3) (by omega), tk_c (by omega), t2, show (240 : Int32) = nI 240 from rfl, pk_mul]
    refine ⟨(tk_in (by omega) (by omega)).mpr (by omega), ?_⟩
    refine c_goThrough (b := m + 2) (cb := 960) S (Mod_4 S) (by omega) t1 (by omega) (by omega) (by rw [f8 (m + 2) (by omega)]; exact t4) rfl hM (fun cc q o p' hq ho => ?_) (fun q o p' e' hq => ?_)
    · rw [t3] at hq
      cases hq
      have SR := hMod_text S (Mod_4 S) (by omega)
      refine ⟨_, _, _, rfl, rfl, _, _, SR, hin, ?_⟩
      intro J16 e16
      refine ⟨hin, ?_⟩
      intro I17 e17
      have hv : o.getD 0 = wv (cd k) h g mn bb l dd := by
        rw [ho]
        exact runA_L l8 _ _ _
      have hf14 : MH (HO (IB I8 m (nI (240 * k)) (nI (tl k))) m o) m p' (-1) (nI 0) m 14 = wv (cd k) h g mn bb l dd := by
        rw [MH_m (by omega), HO_14]; exact hv
      rw [hf14] at e17
      have g1 : ∀ q, q ≠ m → q ≠ m + 4 → q ≠ m + 16 → I17 q = I q := fun q a1 a2 a3 => by rw [e17, zU_off a3, MH_b a1, HO_b a1, IB_b a1, f8 q a2]
      have g2 : ∀ j, j < 8 ∨ 17 < j → I17 m j = I m j := fun j hj => by rw [e17, zU_off (by omega), MH_m (by omega), HO_m (by omega) (by omega), IB_m (by omega), f8 m (by omega)]
      have g3 : I17 (m + 4) = I8 (m + 4) := by rw [e17, zU_off (by omega), MH_b (by omega), HO_b (by omega), IB_b (by omega)]
      have g4 : ∀ x, I17 (m + 16) x = if x = s then wv (cd k) h g mn bb l dd else I (m + 16) x := fun x => by rw [e17, zU_a, MH_b (by omega), HO_b (by omega), IB_b (by omega), f8 (m + 16) (by omega)]
      have g5 : ∀ x, J16 (m + 15) x = if x = s then lN (keyA k h g bb l dd mn) else J (m + 15) x := fun x => by rw [e16, zU_a]
      have e14 : I17 m 14 = wv (cd k) h g mn bb l dd := by rw [e17, zU_off (by omega)]; exact hf14
      rw [e14]
      refine hQ I17 J16 _ _ _ SR ⟨hnl, ?_, ?_, ?_, ?_⟩ ⟨fun q _ a1 a2 a3 => g1 q a1 a2 a3, g2, fun q hq => by rw [e16, zU_off hq], fun q hq => zU_off hq, fun j hj => zU_ne (by omega)⟩
      · rw [g2 7 (by omega)]; exact W.2.1
      · rw [g1 (m + 3) (by omega) (by omega) (by omega), g1 (m + 2) (by omega) (by omega) (by omega)]; exact W.2.2.1
      · intro j hj
        rw [g3]
        exact hM j hj
      · intro x hx
        rw [g4, g5]
        by_cases hxs : x = s
        · rw [if_pos hxs, if_pos hxs]
          exact Or.inr ⟨k, h, g, mn, bb, l, dd, hk, r, rfl, rfl⟩
        · rw [if_neg hxs, if_neg hxs]
          exact W.2.2.2.2 x hx
    · rw [t3] at hq
      cases hq
end
