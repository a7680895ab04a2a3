/-! THE FACE: image, back -/
section
variable {G : zG} {d : Nat} {I : Nat → Nat → Int32} {J : Nat → Nat → Int64} {R : Nat → Nat → Option Nat} {K : Nat → Nat × Nat} {n : Nat} {a s v g nf nx lo M : Nat} {Y T : Nat → Nat} {hs : List (Nat → Nat)} {LG : Nat → Nat → Nat} {Q : Option Value → zH → Prop}
theorem c_portray (S : hHis G R K n g) (S1 : hSt G R K n a s v) (C : CS I a T) (hag : a + 8 ≤ g) (h49 : T 49 ≤ 999) (L : CLg I g (T 49) lo M LG) (hlo : lo ≤ T 49 - 60) (hM : M ≤ T 49 + 40) (hQ : ∀ I', KR (I' (g + 47)) T → I' g 4 = 1 → (∀ i w, i < min 60 (T 49) → w < 3 → I' (g + 49 + w) i = nI (LG (T 49 - 1 - i) w)) → (∀ k, k ≠ 4 → I' g k = I g k) → (∀ b, b ≠ g → b ≠ g + 47 → ¬ (g + 49 ≤ b ∧ b < g + 52) → I' b = I b) → Q none (I', J, R, K, n)) : zC G (d + 2) mX1_portray 0 0 [.ref g, .ref a] (I, J, R, K, n) Q := by
  refine zC.of (by decide) (Nat.le_of_ble_eq_true rfl) ?_
  refine wX1_portray_0 g a s v S S1 ?_
  refine c_keep S1 (His_8 S) C (by omega) ?_
  intro I1 k1 f1
  refine ⟨_, rfl, rfl, ?_⟩
  intro I2 e2
  have k2 : KR (I2 (g + 47)) T := by rw [e2, zU_off (by omega)]; exact k1
  have g2 : I2 g 4 = 1 := by rw [e2, zU_self]
  have m2 : ∀ k, k ≠ 4 → I2 g k = I g k := fun k hk => by rw [e2, zU_ne (by omega), f1 g (by omega)]
  have f2 : ∀ b, b ≠ g → b ≠ g + 47 → I2 b = I b := fun b h1 h2 => by rw [e2, zU_off h1]; exact f1 b h2
  have outer : ∀ (j i : Nat) (I3 : Nat → Nat → Int32), i + j = min 60 (T 49) → (∀ i' w, i' < i → w < 3 → I3 (g + 49 + w) i' = nI (LG (T 49 - 1 - i') w)) → (∀ b, ¬ (g + 49 ≤ b ∧ b < g + 52) → I3 b = I2 b) → zV G (d + 2) mX1_portray 0 0 15 [(0, .ref g), (1, .ref a), (2, .int (nI i))] [] (I3, J, R, K, n) Q := by
    intro j
    induction j with
    | zero =>
      intro i I3 hi r3 f3
      have C3 : CS I3 a T := C.same (fun b b1 b2 => by rw [f3 b (by omega)]; exact f2 b (by omega) (by omega))
      refine wX1_portray_15 g a s v S S1 _ ?_
      refine c_logLength S1 C3 (by omega) ?_
      refine ⟨_, _, rfl, rfl, ?_⟩
      refine ⟨fun _ => ?_, fun h => absurd ((tk_le (by omega) (by omega)).mpr (by omega)) h⟩
      refine hQ I3 (by rw [f3 _ (by omega)]; exact k2) (by rw [f3 _ (by omega)]; exact g2) (fun i' w h1 h2 => r3 i' w (by omega) h2) (fun k hk => by rw [f3 _ (by omega)]; exact m2 k hk) (fun b h1 h2 h3 => by rw [f3 b h3]; exact f2 b h1 h2)
    | succ j ih =>
      intro i I3 hi r3 f3
      have C3 : CS I3 a T := C.same (fun b b1 b2 => by rw [f3 b (by omega)]; exact f2 b (by omega) (by omega))
      refine wX1_portray_15 g a s v S S1 _ ?_
      refine c_logLength S1 C3 (by omega) ?_
      refine ⟨_, _, rfl, rfl, ?_⟩
      refine ⟨fun h => ?_, fun _ => ?_⟩
      · rw [tk_le (by omega) (by omega)] at h
        omega
      have inner : ∀ (y w : Nat) (I4 : Nat → Nat → Int32), w + y = 3 → (∀ i' w', i' < i → w' < 3 → I4 (g + 49 + w') i' = nI (LG (T 49 - 1 - i') w')) → (∀ w', w' < w → I4 (g + 49 + w') i = nI (LG (T 49 - 1 - i) w')) → (∀ b, ¬ (g + 49 ≤ b ∧ b < g + 52) → I4 b = I2 b) → zV G (d + 2) mX1_portray 0 0 25 [(0, .ref g), (1, .ref a), (2, .int (nI i)), (3, .int (nI w))] [] (I4, J, R, K, n) Q := by
        intro y
        induction y with
        | zero =>
          intro w I4 hw r4 s4 f4
          obtain rfl : w = 3 := by omega
          refine wX1_portray_25 g a s v S S1 _ _ ⟨fun _ => ?_, fun h => absurd (by decide) h⟩
          rw [nI_1]
          refine ih (i + 1) I4 (by omega) (fun i' w' h1 h2 => ?_) f4
          by_cases e : i' = i
          · subst e; exact s4 w' h2
          · exact r4 i' w' (by omega) h2
        | succ y ihw =>
          intro w I4 hw r4 s4 f4
          have e10 : I4 a 10 = nI (T 49) := by rw [f4 a (by omega), f2 a (by omega) (by omega)]; exact C.2.2.2.2.2.2
          refine wX1_portray_25 g a s v S S1 _ _ ⟨fun h => ?_, fun _ => ⟨(tk_in (by omega) (by omega)).mpr (by omega), ?_⟩⟩
          · rw [show (3 : Int32) = nI 3 from rfl, tk_le (by omega) (by omega)] at h
            omega
          · rw [e10, show (nI (T 49) - 1 : Int32) = nI (T 49 - 1) from tk_sub (b := 1) (by omega), tk_sub (by omega), tk_c (by omega), tk_c (by omega)]
            refine c_logged S (e := T 49 - 1 - i) (w := w) (by omega) (by omega) ?_
            refine ⟨_, _, rfl, rfl, ?_⟩
            rw [f4 _ (by omega), f2 _ (by omega) (by omega), L _ w (by omega) (by omega) (by omega) (by omega)]
            refine ⟨(tk_in (by omega) (by omega)).mpr (by omega), ?_⟩
            intro I5 e5
            rw [nI_1]
            refine ihw (w + 1) I5 (by omega) (fun i' w' h1 h2 => by rw [e5, zU_ne (by omega)]; exact r4 i' w' h1 h2) (fun w' h1 => ?_) (fun b hb => by rw [e5, zU_off (by omega)]; exact f4 b hb)
            by_cases e : w' = w
            · subst e; rw [e5, zU_self]
            · rw [e5, zU_ne (by omega)]; exact s4 w' (by omega)
      exact inner 3 0 I3 (by omega) r3 (fun w' h => absurd h (by omega)) f3
  exact outer (min 60 (T 49)) 0 I2 (by omega) (fun i' w h => absurd h (by omega)) (fun _ _ => rfl)
theorem c_restore_n (S : hHis G R K n g) (S1 : hSt G R K n a s v) (h4 : I g 4 = 0) (hQ : Q (some (.int 0)) (I, J, R, K, n)) : zC G (d + 2) mX1_restore 0 0 [.ref g, .ref a] (I, J, R, K, n) Q := by
  refine zC.of (by decide) (Nat.le_of_ble_eq_true rfl) ?_
  refine wX1_restore_0 g a s v S S1 ?_
  rw [h4]
  exact ⟨fun _ => hQ, fun h => absurd rfl h⟩
theorem c_restore (S : hHis G R K n g) (S1 : hSt G R K n a s v) (hag : a + 8 ≤ g) (h4 : I g 4 = 1) (kr : KR (I (g + 47)) T) (h49 : T 49 ≤ 999) (pe : ∀ i w, i < min 60 (T 49) → w < 3 → I (g + 49 + w) i = nI (LG (T 49 - 1 - i) w)) (hQ : ∀ I', CS I' a T → I' g 0 = 0 → (∀ k, k ≠ 0 → I' g k = I g k) → (∀ e w, w < 3 → T 49 - 60 ≤ e → e < T 49 → I' (g + 44 + w) (e % 100) = nI (LG e w)) → (∀ b, b ≠ g → ¬ aSt a b → ¬ (g + 44 ≤ b ∧ b < g + 47) → I' b = I b) → Q (some (.int 1)) (I', J, R, K, n)) : zC G (d + 2) mX1_restore 0 0 [.ref g, .ref a] (I, J, R, K, n) Q := by
  refine zC.of (by decide) (Nat.le_of_ble_eq_true rfl) ?_
  refine wX1_restore_0 g a s v S S1 ?_
  rw [h4]
  refine ⟨fun h => absurd h (by decide), fun _ => ?_⟩
  refine c_recall S1 (His_8 S) kr (by omega) ?_
  intro I2 cs2 f2
  refine ⟨_, rfl, rfl, ?_⟩
  intro I3 e3
  have cs3 : CS I3 a T := cs2.same (fun b b1 b2 => by rw [e3, zU_off (by omega)])
  have f3 : ∀ b, b ≠ g → ¬ aSt a b → I3 b = I b := fun b h1 h2 => by rw [e3, zU_off h1]; exact f2 b h2
  have m3 : ∀ k, k ≠ 0 → I3 g k = I g k := fun k hk => by rw [e3, zU_ne (by omega), f2 g (by unfold aSt; omega)]
  have outer : ∀ (j i : Nat) (I4 : Nat → Nat → Int32), i + j = min 60 (T 49) → (∀ i' w, i' < i → w < 3 → I4 (g + 44 + w) ((T 49 - 1 - i') % 100) = nI (LG (T 49 - 1 - i') w)) → (∀ b, ¬ (g + 44 ≤ b ∧ b < g + 47) → I4 b = I3 b) → zV G (d + 2) mX1_restore 0 0 24 [(0, .ref g), (1, .ref a), (2, .int (nI i))] [] (I4, J, R, K, n) Q := by
    intro j
    induction j with
    | zero =>
      intro i I4 hi r4 f4
      have C4 : CS I4 a T := cs3.same (fun b b1 b2 => f4 b (by omega))
      refine wX1_restore_24 g a s v S S1 _ ?_
      refine c_logLength S1 C4 (by omega) ?_
      refine ⟨_, _, rfl, rfl, ?_⟩
      refine ⟨fun _ => ?_, fun h => absurd ((tk_le (by omega) (by omega)).mpr (by omega)) h⟩
      refine hQ I4 C4 (by rw [f4 _ (by omega), e3, zU_self]) (fun k hk => by rw [f4 _ (by omega)]; exact m3 k hk) (fun e w hw h1 h2 => ?_) (fun b h1 h2 h3 => by rw [f4 b h3]; exact f3 b h1 h2)
      have := r4 (T 49 - 1 - e) w (by omega) hw
      rw [show T 49 - 1 - (T 49 - 1 - e) = e by omega] at this
      exact this
    | succ j ih =>
      intro i I4 hi r4 f4
      have C4 : CS I4 a T := cs3.same (fun b b1 b2 => f4 b (by omega))
      refine wX1_restore_24 g a s v S S1 _ ?_
      refine c_logLength S1 C4 (by omega) ?_
      refine ⟨_, _, rfl, rfl, ?_⟩
      refine ⟨fun h => ?_, fun _ => ?_⟩
      · rw [tk_le (by omega) (by omega)] at h
        omega
      have inner : ∀ (y w : Nat) (I5 : Nat → Nat → Int32), w + y = 3 → (∀ i' w', i' < i → w' < 3 → I5 (g + 44 + w') ((T 49 - 1 - i') % 100) = nI (LG (T 49 - 1 - i') w')) → (∀ w', w' < w → I5 (g + 44 + w') ((T 49 - 1 - i) % 100) = nI (LG (T 49 - 1 - i) w')) → (∀ b, ¬ (g + 44 ≤ b ∧ b < g + 47) → I5 b = I3 b) → zV G (d + 2) mX1_restore 0 0 34 [(0, .ref g), (1, .ref a), (2, .int (nI i)), (3, .int (nI w))] [] (I5, J, R, K, n) Q := by
        intro y
        induction y with
        | zero =>
          intro w I5 hw r5 s5 f5
          obtain rfl : w = 3 := by omega
          refine wX1_restore_34 g a s v S S1 _ _ ⟨fun _ => ?_, fun h => absurd (by decide) h⟩
          rw [nI_1]
          refine ih (i + 1) I5 (by omega) (fun i' w' h1 h2 => ?_) f5
          by_cases e : i' = i
          · subst e; exact s5 w' h2
          · exact r5 i' w' (by omega) h2
        | succ y ihw =>
          intro w I5 hw r5 s5 f5
          have e10 : I5 a 10 = nI (T 49) := by rw [f5 a (by omega)]; exact cs3.2.2.2.2.2.2
          have hin : vp_in (nI w) 3 := (tk_in (by omega) (by omega)).mpr (by omega)
          refine wX1_restore_34 g a s v S S1 _ _ ⟨fun h => ?_, fun _ => ⟨hin, hin, (tk_in (by omega) (by omega)).mpr (by omega), ?_⟩⟩
          · rw [show (3 : Int32) = nI 3 from rfl, tk_le (by omega) (by omega)] at h
            omega
          · rw [e10, show (nI (T 49) - 1 : Int32) = nI (T 49 - 1) from tk_sub (b := 1) (by omega), tk_sub (by omega), show (100 : Int32) = nI 100 from rfl, tk_rem (by omega) (by omega) (by omega), tk_c (by omega), tk_c (by omega), tk_c (by omega), f5 (g + 49 + w) (by omega), f3 (g + 49 + w) (by omega) (by unfold aSt; omega), pe i w (by omega) (by omega)]
            refine ⟨(tk_in (by omega) (by omega)).mpr (Nat.mod_lt _ (by decide)), ?_⟩
            intro I6 e6
            rw [nI_1]
            refine ihw (w + 1) I6 (by omega) (fun i' w' h1 h2 => by rw [e6, zU_ne (by omega)]; exact r5 i' w' h1 h2) (fun w' h1 => ?_) (fun b hb => by rw [e6, zU_off (by omega)]; exact f5 b hb)
            by_cases e : w' = w
            · subst e; rw [e6, zU_self]
            · rw [e6, zU_ne (by omega)]; exact s5 w' (by omega)
      exact inner 3 0 I4 (by omega) r4 (fun w' h => absurd h (by omega)) f4
  exact outer (min 60 (T 49)) 0 I3 (by omega) (fun i' w h => absurd h (by omega)) (fun _ _ => rfl)
end
section
variable {G : zG} {d : Nat} {I : Nat → Nat → Int32} {J : Nat → Nat → Int64} {R : Nat → Nat → Option Nat} {K : Nat → Nat × Nat} {n : Nat} {x m v w q nx lo M t c : Nat} {lk sq : Nat → Nat} {tl : Nat → Nat} {tt : Nat → Nat → Nat} {vl : Vt} {st : Stt} {tp : Tpt} {lw : Lwt} {sp : Spt} {ap : Nat} {sg : Sgt} {B B' : Nat} {T T0 : Nat → Nat} {hs : List (Nat → Nat)} {LG : Nat → Nat → Nat} {y : (Nat → Nat) × (Nat → Nat → Nat)}
theorem x_image_n (C : CIv G I R K n x m v w q nx lo M lk sq vl st tp lw sp ap sg B) (hv : ¬ 0 < vl.1) : XC G (d + 3) mX11_image [.ref x] I J R K n x m (-1) vl st tp lw sp ap sg B := by
  intro Q hQ
  replace hQ := hQ I v w q nx lo M lk sq C (fun _ _ _ => rfl)
  refine zC.of (by decide) (Nat.le_of_ble_eq_true rfl) ?_
  refine wX11_image_0 x v w q C.X ?_
  refine c_hasV_n C hv ?_
  refine ⟨_, _, rfl, rfl, ?_⟩
  exact ⟨fun _ => hQ, fun h => absurd rfl h⟩
def imS (st : Stt) : Stt := (st.1, st.2.1, st.2.2.1, some (st.1, st.2.1))
theorem okSt.im (O : okSt vl st B) : okSt vl (imS st) B := by
  obtain ⟨o1, o2, o3, o4, o5, o6⟩ := O
  exact ⟨o1, o2, fun y hy => (by cases hy; exact o1), o4, o5, fun y hy => (by cases hy; exact o4)⟩
theorem x_image_y (C : CIv G I R K n x m v w q nx lo M lk sq vl st tp lw sp ap sg B) (hv : 0 < vl.1) : XC G (d + 3) mX11_image [.ref x] I J R K n x m (nI (st.1 49)) vl (imS st) tp lw sp ap sg B := by
  intro Q hQ
  have g := C.gm
  have hnx := C.hr.2.2.1
  refine zC.of (by decide) (Nat.le_of_ble_eq_true rfl) ?_
  refine wX11_image_0 x v w q C.X ?_
  refine c_hasV_y C hv ?_
  refine ⟨_, _, rfl, rfl, ?_⟩
  refine ⟨fun h => absurd h (by decide), fun _ => ?_⟩
  refine c_portray (X_9 C.X) (X_5 C.X) C.cs (by omega) C.oks.2.2.2.1 C.lg C.hd.2.2.2.2 C.hd.2.2.1 ?_
  intro I' a1 a2 a3 a4 a5
  refine ⟨_, rfl, rfl, ?_⟩
  have cs' : CS I' (x + 12) st.1 := C.cs.same (fun b b1 b2 => a5 b (by omega) (by omega) (by omega))
  rw [cs'.2.2.2.2.2.2]
  refine hQ I' v w q nx lo M lk sq (C.acts (st' := imS st) (fun b k hb h12 h28 => by rw [a5 b (by omega) (by omega) (by omega)]) cs' C.oks.im ?_ C.hd ?_ (Or.inr ⟨(st.1, st.2.1), rfl, a2, a1, a3⟩)) (fun b b1 b2 => a5 b (by have := g.1; omega) (by have := g.1; omega) (by have := g.1; omega))
  · obtain ⟨c1, c2, c3, c4, c5⟩ := C.hr
    refine ⟨c1, by rw [a4 0 (by omega)]; exact c2, c3, by rw [a4 2 (by omega)]; exact c4, fun j hj => ?_⟩
    rw [a5 _ (by omega) (by omega) (by omega)]
    exact c5 j hj
  · exact C.lg.same (fun b b1 b2 => a5 b (by omega) (by omega) (by omega))
theorem y_image_n (C : MIv G I J R K n m t c tl tt vl st tp lw sp ap sg B) (hv : ¬ 0 < vl.1) : YC G (d + 1) mX12_image [.ref m] I J R K n m t c tl tt (-1) vl st tp lw sp ap sg B := by
  intro Q hQ
  obtain ⟨M1, f1⟩ := C.z0 (y := 0)
  refine zC.of (by decide) (Nat.le_of_ble_eq_true rfl) ?_
  refine wX12_image_0 m t c C.S_ ?_
  rintro _ rfl
  rw [M1.v_.1.1, show vl.1 = 0 by omega]
  exact ⟨fun _ => hQ _ M1 f1, fun h => absurd rfl h⟩
theorem y_image_y (C : MIv G I J R K n m t c tl tt vl st tp lw sp ap sg B) (hv : 0 < vl.1) : YC G (d + 1) mX12_image [.ref m] I J R K n m t c tl tt (nI (st.1 49)) vl (imS st) tp lw sp ap sg B := by
  intro Q hQ
  have h6 := C.okv_.1.1
  obtain ⟨M1, f1⟩ := C.z0 (y := 0)
  refine zC.of (by decide) (Nat.le_of_ble_eq_true rfl) ?_
  refine wX12_image_0 m t c C.S_ ?_
  rintro _ rfl
  generalize zU I m 0 0 = I1 at M1 f1 ⊢
  refine ⟨fun h => ?_, fun _ => ?_⟩
  · rw [M1.v_.1.1, show (0 : Int32) = nI 0 from rfl, tk_eq (by omega) (by omega)] at h
    omega
  have loop : ∀ (j k : Nat) (I4 : Nat → Nat → Int32), k + j = 231 → (∀ y, y < k → I4 (m + 20) y = I1 (m + 13) y) → (∀ b, b ≠ m + 20 → I4 b = I1 b) → zV G (d + 1) mX12_image 0 0 16 [(0, .ref m), (1, .int (nI k))] [] (I4, J, R, K, n) Q := by
    intro j
    induction j with
    | zero =>
      intro k I4 hk r4 f4
      obtain rfl : k = 231 := by omega
      refine wX12_image_16 m t c M1.S_ _ ⟨fun _ => ?_, fun h => absurd (by decide) h⟩
      intro I5 e5
      have g5 : ∀ b, b ≠ m → b ≠ m + 20 → I5 b = I1 b := fun b h1 h2 => by rw [e5, zU_off h1]; exact f4 b h2
      have h5 : ∀ k, k ≠ 47 → I5 m k = I1 m k := fun k hk => by rw [e5, zU_ne (by omega), f4 m (by omega)]
      rw [show (49 : Int32).toNatClampNeg = 49 from rfl, g5 _ (by omega) (by omega), M1.mr 49 (by omega)]
      refine ⟨(tk_in (n := 49) (by omega) (by omega)).mpr (by omega), hQ I5 (M1.acts (st' := imS st) M1.S_ (fun b k h1 h2 h3 h4 h5' => ?_) ?_ ⟨?_, ?_, M1.s_.2.2.1, ?_, Or.inr ⟨(st.1, st.2.1), rfl, ?_, ?_⟩⟩ M1.oks_.im) (fun b hb => ?_)⟩
      · by_cases e : b = m
        · subst e; exact h5 k (by omega)
        · rw [g5 b e h5']
      · unfold LMo
        rw [h5 7 (by omega), g5 _ (by omega) (by omega), g5 _ (by omega) (by omega), g5 _ (by omega) (by omega), g5 _ (by omega) (by omega)]
        exact M1.lm_
      · rw [g5 _ (by omega) (by omega)]; exact M1.s_.1
      · rw [h5 39 (by omega)]; exact M1.s_.2.1
      · rw [g5 _ (by omega) (by omega)]; exact M1.s_.2.2.2.1
      · rw [e5, zU_self]
      · refine M1.s_.1.congr (fun y hy => ?_)
        rw [e5, zU_off (by omega)]
        exact r4 y hy
      · rw [g5 b (by omega) (by omega)]; exact f1 b hb
    | succ j ih =>
      intro k I4 hk r4 f4
      refine wX12_image_16 m t c M1.S_ _ ⟨fun h => ?_, fun _ => ?_⟩
      · rw [show (231 : Int32) = nI 231 from rfl, tk_le (by omega) (by omega)] at h
        omega
      · rw [tk_c (by omega), nI_1, f4 _ (by omega)]
        refine ⟨(tk_in (by omega) (by omega)).mpr (by omega), (tk_in (by omega) (by omega)).mpr (by omega), ?_⟩
        intro I6 e6
        refine ih (k + 1) I6 (by omega) (fun y hy => ?_) (fun b hb => by rw [e6, zU_off hb]; exact f4 b hb)
        rw [e6, zU_a]
        by_cases e : y = k
        · subst e; rw [if_pos rfl]
        · rw [if_neg e]; exact r4 y (by omega)
  exact loop 231 0 I1 (by omega) (fun y hy => absurd hy (by omega)) (fun _ _ => rfl)
theorem x_back_n (C : CIv G I R K n x m v w q nx lo M lk sq vl (T, LG, hs, none) tp lw sp ap sg B) : XC G (d + 3) mX11_back [.ref x] I J R K n x m (-1) vl (T, LG, hs, none) tp lw sp ap sg B := by
  intro Q hQ
  replace hQ := hQ I v w q nx lo M lk sq C (fun _ _ _ => rfl)
  have h4 : I (x + 28) 4 = 0 := by
    rcases C.im with ⟨-, h⟩ | ⟨y, e, -⟩
    · exact h
    · cases e
  refine zC.of (by decide) (Nat.le_of_ble_eq_true rfl) ?_
  refine wX11_back_0 x v w q C.X ?_
  refine c_restore_n (X_9 C.X) (X_5 C.X) h4 ?_
  refine ⟨_, _, rfl, rfl, ?_⟩
  rw [if_pos rfl]
  exact hQ
theorem x_back_y (C : CIv G I R K n x m v w q nx lo M lk sq vl (T, LG, hs, some y) tp lw sp ap sg B) : XC G (d + 3) mX11_back [.ref x] I J R K n x m (nI (y.1 49)) vl (y.1, y.2, [], some y) tp lw sp ap sg B := by
  intro Q hQ
  have g := C.gm
  have hnx := C.hr.2.2.1
  obtain ⟨i1, i2, i3⟩ : I (x + 28) 4 = 1 ∧ KR (I (x + 28 + 47)) y.1 ∧ ∀ i w, i < min 60 (y.1 49) → w < 3 → I (x + 28 + 49 + w) i = nI (y.2 (y.1 49 - 1 - i) w) := by
    rcases C.im with ⟨e, -⟩ | ⟨z, e, h1, h2, h3⟩
    · cases e
    · cases e
      exact ⟨h1, h2, h3⟩
  have h9 := C.oks.2.2.2.2.2 y rfl
  refine zC.of (by decide) (Nat.le_of_ble_eq_true rfl) ?_
  refine wX11_back_0 x v w q C.X ?_
  refine c_restore (X_9 C.X) (X_5 C.X) (by omega) i1 i2 h9 i3 ?_
  intro I' cs' a1 a2 a3 a4
  refine ⟨_, _, rfl, rfl, ?_⟩
  rw [if_neg (by decide), cs'.2.2.2.2.2.2]
  refine hQ I' v w q nx (y.1 49 - 60) (y.1 49) lk sq (C.acts (st' := (y.1, y.2, [], some y)) (fun b k hb h12 h28 => by rw [a4 b (by omega) (by unfold aSt; omega) (by omega)]) cs' ?_ ?_ ?_ ?_ ?_) (fun b b1 b2 => a4 b (by have := g.1; omega) (by have := g.1; unfold aSt; omega) (by have := g.1; omega))
  · exact ⟨C.oks.2.2.1 y rfl, fun j hj => absurd hj (by simp), C.oks.2.2.1, h9, fun j hj => absurd hj (by simp), C.oks.2.2.2.2.2⟩
  · refine ⟨by simp, a1, hnx, by rw [a2 2 (by omega)]; exact C.hr.2.2.2.1, fun j hj => absurd hj (by simp)⟩
  · exact ⟨trivial, fun j hj => absurd hj (by simp), by simp, by simp, by simp⟩
  · intro e w hw e1 e2 _
    exact a3 e w hw e1 e2
  · refine Or.inr ⟨y, rfl, by rw [a2 4 (by omega)]; exact i1, by rw [a4 _ (by omega) (by unfold aSt; omega) (by omega)]; exact i2, fun i w h1 h2 => ?_⟩
    rw [a4 _ (by omega) (by unfold aSt; omega) (by omega)]
    exact i3 i w h1 h2
theorem y_back_n (C : MIv G I J R K n m t c tl tt vl (T, LG, hs, none) tp lw sp ap sg B) : YC G (d + 1) mX12_back [.ref m] I J R K n m t c tl tt (-1) vl (T, LG, hs, none) tp lw sp ap sg B := by
  intro Q hQ
  obtain ⟨M1, f1⟩ := C.z0 (y := 0)
  refine zC.of (by decide) (Nat.le_of_ble_eq_true rfl) ?_
  refine wX12_back_0 m t c C.S_ ?_
  rintro _ rfl
  have h4 : zU I m 0 0 m 47 = 0 := by
    rcases M1.s_.2.2.2.2 with ⟨-, h⟩ | ⟨y, e, -⟩
    · exact h
    · cases e
  rw [h4]
  exact ⟨fun _ => hQ _ M1 f1, fun h => absurd rfl h⟩
theorem y_back_y (C : MIv G I J R K n m t c tl tt vl (T, LG, hs, some y) tp lw sp ap sg B) : YC G (d + 1) mX12_back [.ref m] I J R K n m t c tl tt (nI (y.1 49)) vl (y.1, y.2, [], some y) tp lw sp ap sg B := by
  intro Q hQ
  obtain ⟨M1, f1⟩ := C.z0 (y := 0)
  refine zC.of (by decide) (Nat.le_of_ble_eq_true rfl) ?_
  refine wX12_back_0 m t c C.S_ ?_
  rintro _ rfl
  generalize zU I m 0 0 = I1 at M1 f1 ⊢
  obtain ⟨h4, lr⟩ : I1 m 47 = 1 ∧ LR (I1 (m + 20)) y.1 y.2 := by
    rcases M1.s_.2.2.2.2 with ⟨e, -⟩ | ⟨z, e, h1, h2⟩
    · cases e
    · cases e
      exact ⟨h1, h2⟩
  have h9 := M1.oks_.2.2.2.2.2 y rfl
  rw [h4]
  refine ⟨fun h => absurd h (by decide), fun _ => ?_⟩
  have loop : ∀ (j k : Nat) (I4 : Nat → Nat → Int32), k + j = 231 → (∀ z, z < k → I4 (m + 13) z = I1 (m + 20) z) → (∀ b, b ≠ m + 13 → I4 b = I1 b) → zV G (d + 1) mX12_back 0 0 16 [(0, .ref m), (1, .int (nI k))] [] (I4, J, R, K, n) Q := by
    intro j
    induction j with
    | zero =>
      intro k I4 hk r4 f4
      obtain rfl : k = 231 := by omega
      refine wX12_back_16 m t c M1.S_ _ ⟨fun _ => ?_, fun h => absurd (by decide) h⟩
      intro I5 e5
      have g5 : ∀ b, b ≠ m → b ≠ m + 13 → I5 b = I1 b := fun b h1 h2 => by rw [e5, zU_off h1]; exact f4 b h2
      have h5 : ∀ k, k ≠ 39 → I5 m k = I1 m k := fun k hk => by rw [e5, zU_ne (by omega), f4 m (by omega)]
      have lr5 : LR (I5 (m + 13)) y.1 y.2 := lr.congr (fun z hz => by rw [e5, zU_off (by omega)]; exact r4 z hz)
      rw [show (49 : Int32).toNatClampNeg = 49 from rfl, lr5.1 49 (by omega)]
      refine ⟨(tk_in (n := 49) (by omega) (by omega)).mpr (by omega), hQ I5 (M1.acts (st' := (y.1, y.2, [], some y)) M1.S_ (fun b k h1 h2 h3 h4 h5' => ?_) ?_ ⟨lr5, ?_, by simp, fun j hj => absurd hj (by simp), Or.inr ⟨y, rfl, ?_, ?_⟩⟩ ?_) (fun b hb => ?_)⟩
      · by_cases e : b = m
        · subst e; exact h5 k (by omega)
        · rw [g5 b e h3]
      · unfold LMo
        rw [h5 7 (by omega), g5 _ (by omega) (by omega), g5 _ (by omega) (by omega), g5 _ (by omega) (by omega), g5 _ (by omega) (by omega)]
        exact M1.lm_
      · rw [e5, zU_self]; rfl
      · rw [h5 47 (by omega)]; exact h4
      · rw [g5 _ (by omega) (by omega)]; exact lr
      · exact ⟨M1.oks_.2.2.1 y rfl, fun j hj => absurd hj (by simp), M1.oks_.2.2.1, h9, fun j hj => absurd hj (by simp), M1.oks_.2.2.2.2.2⟩
      · rw [g5 b (by omega) (by omega)]; exact f1 b hb
    | succ j ih =>
      intro k I4 hk r4 f4
      refine wX12_back_16 m t c M1.S_ _ ⟨fun h => ?_, fun _ => ?_⟩
      · rw [show (231 : Int32) = nI 231 from rfl, tk_le (by omega) (by omega)] at h
        omega
      · rw [tk_c (by omega), nI_1, f4 _ (by omega)]
        refine ⟨(tk_in (by omega) (by omega)).mpr (by omega), (tk_in (by omega) (by omega)).mpr (by omega), ?_⟩
        intro I6 e6
        refine ih (k + 1) I6 (by omega) (fun z hz => ?_) (fun b hb => by rw [e6, zU_off hb]; exact f4 b hb)
        rw [e6, zU_a]
        by_cases e : z = k
        · subst e; rw [if_pos rfl]
        · rw [if_neg e]; exact r4 z (by omega)
  exact loop 231 0 I1 (by omega) (fun y hy => absurd hy (by omega)) (fun _ _ => rfl)
end
