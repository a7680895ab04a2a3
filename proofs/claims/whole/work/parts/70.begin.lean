/-! THE CLASS: begin; what a told wrong is worth at the start -/
def beginT (vl : Vt) : Nat → Nat := fun k => if k < 3 * vl.2.2.1 then vl.2.2.2.1 k else if k = 47 then vl.2.2.2.2.1 else if k = 48 then vl.2.2.2.2.2 else 0
theorem up_up {T : Nat → Nat} {i x y : Nat} : up (up T i x) i y = up T i y := by
  funext k
  by_cases h : k = i
  · subst h; rw [up_at, up_at]
  · rw [up_ne h, up_ne h, up_ne h]
theorem up_id {T : Nat → Nat} {i : Nat} : up T i (T i) = T := by
  funext k
  by_cases h : k = i
  · subst h; rw [up_at]
  · rw [up_ne h]
section
variable {G : zG} {d : Nat} {I : Nat → Nat → Int32} {J : Nat → Nat → Int64} {R : Nat → Nat → Option Nat} {K : Nat → Nat × Nat} {n : Nat} {a s v B : Nat} {T : Nat → Nat} {vl : Vt} {lw : Lwt} {Q : Option Value → zH → Prop}
theorem begin_w {p j : Nat} (hp : p < vl.2.2.1) (hj : j < 3) : beginT vl (3 * p + j) = vl.2.2.2.1 (3 * p + j) := if_pos (by omega)
theorem begin_z {k : Nat} (h : 3 * vl.2.2.1 ≤ k) (h1 : k ≠ 47) (h2 : k ≠ 48) : beginT vl k = 0 := by
  unfold beginT
  rw [if_neg (by omega), if_neg h1, if_neg h2]
theorem begin_47 (h : vl.2.2.1 ≤ 9) : beginT vl 47 = vl.2.2.2.2.1 := by
  unfold beginT
  rw [if_neg (by omega), if_pos rfl]
theorem begin_48 (h : vl.2.2.1 ≤ 9) : beginT vl 48 = vl.2.2.2.2.2 := by
  unfold beginT
  rw [if_neg (by omega), if_neg (by omega), if_pos rfl]
theorem okT.begin_ (W : okVl vl) (hB : B < 100000) : okT B vl.1 vl.2.1 (beginT vl) := by
  obtain ⟨w1, w2, w3, w4, w5⟩ := W
  have h6 := w1.1
  refine ⟨fun p hp => ?_, fun f hf => ?_, fun f h1 h2 => ?_, fun f hf => ?_, ?_⟩
  · by_cases h : p < vl.2.2.1
    · obtain ⟨a1, a2, a3, a4, a5⟩ := w5 p h
      have e0 := begin_w (vl := vl) (j := 0) h (by omega)
      rw [Nat.add_zero] at e0
      rw [begin_w h (by omega), begin_w h (by omega), e0]
      exact ⟨a5, fun _ => ⟨a1, a2, a3⟩⟩
    · rw [begin_z (by omega) (by omega) (by omega)]
      exact ⟨by omega, fun h => absurd h (by omega)⟩
  · rw [begin_z (by omega) (by omega) (by omega), begin_z (by omega) (by omega) (by omega)]
    omega
  · rw [begin_z (by omega) (by omega) (by omega), begin_z (by omega) (by omega) (by omega)]
    omega
  · rw [begin_z (by omega) (by omega) (by omega)]
    omega
  · rw [begin_z (by omega) (by omega) (by omega), begin_z (by omega) (by omega) (by omega), begin_47 w2, begin_48 w2, begin_z (by omega) (by omega) (by omega)]
    omega
theorem okT.wt {nf : Nat} {Y : Nat → Nat} (O : okT B nf Y T) {p x : Nat} (hp : p < 9) (ho : 0 < T (3 * p + 2)) (hx : x ≤ 9) : okT B nf Y (up T (3 * p + 2) x) := by
  obtain ⟨o1, o2, o3, o4, o5⟩ := O
  refine ⟨fun i hi => ?_, fun f hf => ?_, fun f h1 h2 => ?_, fun f hf => ?_, ?_⟩
  · rw [up_ne (show 3 * i ≠ 3 * p + 2 by omega), up_ne (show 3 * i + 1 ≠ 3 * p + 2 by omega)]
    by_cases e : i = p
    · subst e
      rw [up_at]
      exact ⟨hx, fun _ => (o1 i hi).2 ho⟩
    · rw [up_ne (by omega)]
      exact o1 i hi
  · rw [up_ne (by omega), up_ne (by omega)]; exact o2 f hf
  · rw [up_ne (by omega), up_ne (by omega)]; exact o3 f h1 h2
  · rw [up_ne (by omega)]; exact o4 f hf
  · rw [up_ne (by omega), up_ne (by omega), up_ne (by omega), up_ne (by omega), up_ne (by omega)]; exact o5
theorem CS.wt (C : CS I a T) {p x : Nat} (hp : p < 9) (ho : 0 < T (3 * p + 2)) : CS (zU I (a + 3) p (nI x)) a (up T (3 * p + 2) x) := by
  obtain ⟨c1, c2, c3, c4, c5, c6, c7⟩ := C
  refine ⟨fun i hi => ?_, fun f hf => ?_, ?_, ?_, ?_, ?_, ?_⟩
  · rw [zU_a, zU_off (by omega), zU_off (by omega), up_ne (show 3 * i ≠ 3 * p + 2 by omega), up_ne (show 3 * i + 1 ≠ 3 * p + 2 by omega)]
    by_cases e : i = p
    · subst e
      rw [if_pos rfl, up_at]
      exact ⟨rfl, fun _ => (c1 i hi).2 ho⟩
    · rw [if_neg e, up_ne (by omega)]
      exact c1 i hi
  · rw [zU_off (by omega), zU_off (by omega), zU_off (by omega), up_ne (by omega), up_ne (by omega), up_ne (by omega)]
    exact c2 f hf
  · rw [zU_off (by omega), up_ne (by omega)]; exact c3
  · rw [zU_off (by omega), up_ne (by omega)]; exact c4
  · rw [zU_off (by omega), up_ne (by omega)]; exact c5
  · rw [zU_off (by omega), up_ne (by omega)]; exact c6
  · rw [zU_off (by omega), up_ne (by omega)]; exact c7
theorem c_begin (S : hSt G R K n a s v) (g : Geo a s v) (V : cV I v vl) (W : okVl vl) (hQ : ∀ I', CS I' a (beginT vl) → (∀ b, ¬ (a ≤ b ∧ b < a + 7) → I' b = I b) → Q none (I', J, R, K, n)) : zC G (d + 2) mX8_begin 0 0 [.ref a] (I, J, R, K, n) Q := by
  have hnw := W.2.1
  unfold Geo at g
  refine zC.of (by decide) (Nat.le_of_ble_eq_true rfl) ?_
  refine wX8_begin_0 a s v S ?_
  have loop : ∀ (j k : Nat) (I1 : Nat → Nat → Int32), k + j = 9 → (∀ i, i < k → I1 (a + 3) i = nI (beginT vl (3 * i + 2)) ∧ (0 < beginT vl (3 * i + 2) → I1 (a + 1) i = nI (beginT vl (3 * i)) ∧ I1 (a + 2) i = nI (beginT vl (3 * i + 1)))) → (∀ b, ¬ (a ≤ b ∧ b < a + 7) → I1 b = I b) → zV G (d + 2) mX8_begin 0 0 10 [(0, .ref a), (1, .ref v), (2, .int (nI k))] [] (I1, J, R, K, n) Q := by
    intro j
    induction j with
    | zero =>
      intro k I1 hk r1 f1
      obtain rfl : k = 9 := by omega
      refine wX8_begin_10 a s v S _ ⟨fun _ => ?_, fun h => absurd (by decide) h⟩
      refine c_fill (St_8 S) (by decide) ?_
      intro I2 f2 z2
      refine ⟨_, rfl, rfl, ?_⟩
      refine c_fill (St_10 S) (by decide) ?_
      intro I3 f3 z3
      refine ⟨_, rfl, rfl, ?_⟩
      refine c_fill (St_12 S) (by decide) ?_
      intro I4 f4 z4
      refine ⟨_, rfl, rfl, ?_⟩
      intro I5 e5 I6 e6 I7 e7 I8 e8 I9 e9
      have hb : ∀ b, b ≠ a → I9 b = I4 b := fun b h => by rw [e9, zU_off h, e8, zU_off h, e7, zU_off h, e6, zU_off h, e5, zU_off h]
      have ho : ∀ b, b ≠ a → b ≠ a + 4 → b ≠ a + 5 → b ≠ a + 6 → I9 b = I1 b := fun b h h4 h5 h6 => by rw [hb b h, f4 b h6, f3 b h5, f2 b h4]
      have hv : ∀ b, v ≤ b → b < v + 7 → I4 b = I b := fun b h1 h2 => by rw [← hb b (by omega), ho b (by omega) (by omega) (by omega) (by omega), f1 b (by omega)]
      have v7 : I6 v 7 = nI vl.2.2.2.2.1 := by rw [e6, zU_off (by omega), e5, zU_off (by omega), hv v (by omega) (by omega)]; exact V.2.2.1
      have v8 : I7 v 8 = nI vl.2.2.2.2.2 := by rw [e7, zU_off (by omega), e6, zU_off (by omega), e5, zU_off (by omega), hv v (by omega) (by omega)]; exact V.2.2.2.1
      refine hQ I9 ⟨fun p hp => ?_, fun f hf => ?_, ?_, ?_, ?_, ?_, ?_⟩ (fun b h => by rw [ho b (by omega) (by omega) (by omega) (by omega)]; exact f1 b h)
      · rw [ho _ (by omega) (by omega) (by omega) (by omega), ho _ (by omega) (by omega) (by omega) (by omega), ho _ (by omega) (by omega) (by omega) (by omega)]
        exact r1 p hp
      · rw [hb _ (by omega), hb _ (by omega), hb _ (by omega), f4 (a + 4) (by omega), f3 (a + 4) (by omega), z2 f hf, f4 (a + 5) (by omega), z3 f hf, z4 f hf, begin_z (by omega) (by omega) (by omega), begin_z (by omega) (by omega) (by omega), begin_z (by omega) (by omega) (by omega)]
        exact ⟨rfl, rfl, rfl⟩
      · rw [begin_z (by omega) (by omega) (by omega), e9, zU_ne (by omega), e8, zU_ne (by omega), e7, zU_ne (by omega), e6, zU_ne (by omega), e5, zU_self]
        rfl
      · rw [begin_z (by omega) (by omega) (by omega), e9, zU_ne (by omega), e8, zU_ne (by omega), e7, zU_ne (by omega), e6, zU_self]
        rfl
      · rw [begin_47 hnw, e9, zU_ne (by omega), e8, zU_ne (by omega), e7, zU_self, v7]
      · rw [begin_48 hnw, e9, zU_ne (by omega), e8, zU_self, v8]
      · rw [begin_z (by omega) (by omega) (by omega), e9, zU_self]
        rfl
    | succ j ih =>
      intro k I1 hk r1 f1
      have hin : vp_in (nI k) 9 := (tk_in (by omega) (by omega)).mpr (by omega)
      refine wX8_begin_10 a s v S _ ⟨fun h => ?_, fun _ => ⟨fun _ => hin, hin, ?_⟩⟩
      · rw [show (9 : Int32) = nI 9 from rfl, tk_le (by omega) (by omega)] at h
        omega
      have e6 : I1 v 6 = nI vl.2.2.1 := by rw [f1 v (by omega)]; exact V.2.1
      rw [e6, tk_c (by omega), nI_1]
      intro I2 e2
      refine ⟨fun _ => hin, hin, ?_⟩
      intro I3 e3
      refine ⟨fun _ => hin, hin, ?_⟩
      intro I4 e4
      refine ih (k + 1) I4 (by omega) (fun i hi => ?_) (fun b hb => by rw [e4, zU_off (by omega), e3, zU_off (by omega), e2, zU_off (by omega)]; exact f1 b hb)
      have v3 : I1 (v + 3) = I (v + 3) := f1 _ (by omega)
      have v4 : I2 (v + 4) = I (v + 4) := by rw [e2, zU_off (by omega), f1 _ (by omega)]
      have v5 : I3 (v + 5) = I (v + 5) := by rw [e3, zU_off (by omega), e2, zU_off (by omega), f1 _ (by omega)]
      rw [v3] at e2
      rw [v4] at e3
      rw [v5] at e4
      have q1 : I4 (a + 1) i = if i = k then (if (if nI vl.2.2.1 ≤ nI k then (0 : Int32) else 1) = 0 then 0 else I (v + 3) k) else I1 (a + 1) i := by rw [e4, zU_off (by omega), e3, zU_off (by omega), e2, zU_a]
      have q2 : I4 (a + 2) i = if i = k then (if (if nI vl.2.2.1 ≤ nI k then (0 : Int32) else 1) = 0 then 0 else I (v + 4) k) else I1 (a + 2) i := by rw [e4, zU_off (by omega), e3, zU_a, e2, zU_off (by omega)]
      have q3 : I4 (a + 3) i = if i = k then (if (if nI vl.2.2.1 ≤ nI k then (0 : Int32) else 1) = 0 then 0 else I (v + 5) k) else I1 (a + 3) i := by rw [e4, zU_a, e3, zU_off (by omega), e2, zU_off (by omega)]
      rw [q1, q2, q3]
      by_cases e : i = k
      · subst e
        rw [if_pos rfl, if_pos rfl, if_pos rfl]
        by_cases hw : i < vl.2.2.1
        · have c0 : (if nI vl.2.2.1 ≤ nI i then (0 : Int32) else 1) ≠ 0 := by rw [if_neg (by rw [tk_le (by omega) (by omega)]; omega)]; decide
          have b0 := begin_w (vl := vl) (j := 0) hw (by omega)
          rw [Nat.add_zero] at b0
          obtain ⟨t1, t2, t3⟩ := V.2.2.2.2 i hw
          rw [if_neg c0, if_neg c0, if_neg c0, t1, t2, t3, begin_w hw (by omega), begin_w hw (by omega), b0]
          exact ⟨rfl, fun _ => ⟨rfl, rfl⟩⟩
        · have c0 : (if nI vl.2.2.1 ≤ nI i then (0 : Int32) else 1) = 0 := by rw [if_pos (by rw [tk_le (by omega) (by omega)]; omega)]
          rw [if_pos c0, if_pos c0, if_pos c0, begin_z (k := 3 * i + 2) (by omega) (by omega) (by omega)]
          exact ⟨rfl, fun h => absurd h (by omega)⟩
      · rw [if_neg e, if_neg e, if_neg e]
        exact r1 i (by omega)
  exact loop 9 0 I (by omega) (fun i hi => absurd hi (by omega)) (fun _ _ => rfl)
/-- the yards of a told wrong, were it of this weight, at the start -/
def tellA (vl : Vt) (lw : Lwt) (p x : Nat) : Nat := min (aW lw x (vl.2.1 (2 * vl.2.2.2.1 (3 * p + 1) + 1)) 0 (vl.2.1 (2 * vl.2.2.2.1 (3 * p + 1))) vl.2.2.2.2.1 0) (min (vl.2.1 (2 * vl.2.2.2.1 (3 * p + 1))) vl.2.2.2.2.1)
theorem tell_eq (W : okVl vl) {p x : Nat} (hp : p < vl.2.2.1) : yardsA (aW lw) vl.2.1 (up (beginT vl) (3 * p + 2) x) p = tellA vl lw p x := by
  obtain ⟨w1, w2, w3, w4, w5⟩ := W
  have h6 := w1.1
  obtain ⟨a1, a2, a3, a4, a5⟩ := w5 p hp
  have b0 := begin_w (vl := vl) (j := 0) hp (by omega)
  rw [Nat.add_zero] at b0
  unfold yardsA tellA bareA
  rw [up_at, up_ne (show 3 * p + 1 ≠ 3 * p + 2 by omega), up_ne (show 3 * p ≠ 3 * p + 2 by omega), b0, begin_w hp (by omega), up_ne (show 47 ≠ 3 * p + 2 by omega), up_ne (show 49 ≠ 3 * p + 2 by omega), begin_47 w2, begin_z (k := 49) (by omega) (by omega) (by omega), up_ne (by omega), begin_z (by omega) (by omega) (by omega), up_ne (by omega), begin_z (k := 27 + _) (by omega) (by omega) (by omega), up_ne (by omega), begin_z (k := 28 + _) (by omega) (by omega) (by omega)]
  simp only [Nat.add_zero, Nat.sub_zero]
end
