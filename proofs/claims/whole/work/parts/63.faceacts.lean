/-! THE FACE: forgive, paint, inspect, sin, buy, give -/
section
variable {G : zG} {d : Nat} {I : Nat → Nat → Int32} {J : Nat → Nat → Int64} {R : Nat → Nat → Option Nat} {K : Nat → Nat × Nat} {n : Nat} {x m v w q nx lo M t c : Nat} {lk sq : Nat → Nat} {tl : Nat → Nat} {tt : Nat → Nat → Nat} {vl : Vt} {st : Stt} {tp : Tpt} {lw : Lwt} {sp : Spt} {ap : Nat} {sg : Sgt} {B B' : Nat} {p p2 p3 : Int32} {T T' : Nat → Nat} {hs : List (Nat → Nat)} {LG LG' : Nat → Nat → Nat} {Q : Option Value → zH → Prop}
/-- the state behind an act -/
def actS (st : Stt) (T' : Nat → Nat) : Stt := (T', st.2.1, push st.1 st.2.2.1, st.2.2.2)
theorem x_act0 {I2 : Nat → Nat → Int32} {y : Nat} (hy : y < 100000) (C : CIv G I R K n x m v w q nx lo M lk sq vl st tp lw sp ap sg B) (kr : KR (I (x + 30 + nx)) st.1) (cs : CS I2 (x + 12) T') (F2 : Fr (aSt (x + 12)) R (x + 3) I I2) (e49 : T' 49 = st.1 49) (ok : okT B' vl.1 vl.2.1 T') (hB : B ≤ B') (hQ : ∀ I' nx' M', CIv G I' R K n x m v w q nx' lo M' lk sq vl (actS st T') tp lw sp ap sg B' → (∀ b, m ≤ b → b < m + 21 → I' b = I b) → Q (some (.int (nI y))) (I', J, R, K, n)) : zC G (d + 2) mX11_acted 0 0 [.ref x, .int (nI y)] (I2, J, R, K, n) Q := by
  have hnx := C.hr.2.2.1
  have low : ∀ b, ¬ aSt (x + 12) b → b ≠ x + 11 → b < x + 111 → I2 b = I b := fun b h1 h2 h3 => F2.low C.lwh h1 h2 h3
  have hM := C.hd.2.2.2.1
  refine x_acted hy C (C.hr.same (low _ (by unfold aSt; omega) (by omega) (by omega)) (fun j hj _ => low _ (by unfold aSt; omega) (by omega) (by omega))) (by rw [low _ (by unfold aSt; omega) (by omega) (by omega)]; exact kr) cs (by omega) (by omega) ?_ (C.oks.push ok hB (by have := C.oks.2.2.2.1; omega)) (fun b k hb h12 _ => C.fr F2 (fun h => h12 (by unfold aSt at h; omega)) hb) hQ
  rw [e49, show max M (st.1 49) = M by omega]
  exact C.lg.same (fun b b1 b2 => low b (by unfold aSt; omega) (by omega) (by omega))
theorem y_act {I1 I7 : Nat → Nat → Int32} {J8 : Nat → Nat → Int64} {R9 : Nat → Nat → Option Nat} {t' c' : Nat} (C : MIv G I J R K n m t c tl tt vl st tp lw sp ap sg B) (a1 : I1 m 39 = nI (push st.1 st.2.2.1).length) (a2 : ∀ j, j < (push st.1 st.2.2.1).length → LR (fun k => I1 (m + 17) (231 * ((push st.1 st.2.2.1).length - 1 - j) + k)) (nth (push st.1 st.2.2.1) j) st.2.1) (a3 : ∀ k, k ≠ 39 → I1 m k = I m k) (a4 : ∀ b, b ≠ m → b ≠ m + 17 → I1 b = I b) (S' : hMod G R9 K n m t' c') (L' : LMo I7 J8 m lw.1 tl tt lw.2.1) (F : FMo (fun q => q = m + 13) m I1 I7 J J8 R R9) (lr : LR (I7 (m + 13)) T' LG') (hLG : ∀ y w, y < st.1 49 → LG' y w = st.2.1 y w) (ok : okT B' vl.1 vl.2.1 T') (hB : B ≤ B') (h9 : T' 49 ≤ 999) (hd : chn (st.1 49) st.2.2.1) :
    MIv G I7 J8 R9 K n m t' c' tl tt vl (T', LG', push st.1 st.2.2.1, st.2.2.2) tp lw sp ap sg B' ∧ (∀ b, b < m ∨ m + 21 ≤ b → I7 b = I b ∧ J8 b = J b) ∧ (∀ b, b ≠ m → R9 b = R b) := by
  have hb : ∀ b, b ≠ m → b ≠ m + 13 → b ≠ m + 4 → b ≠ m + 16 → b ≠ m + 17 → I7 b = I b := fun b h1 h2 h3 h4 h5 => by rw [F.1 b h2 h1 h3 h4, a4 b h1 h5]
  have h17 : I7 (m + 17) = I1 (m + 17) := F.1 _ (by omega) (by omega) (by omega) (by omega)
  refine ⟨C.acts S' (fun b k h1 h2 h3 h4 h5 => ?_) L' ⟨lr, ?_, ?_, fun j hj => ?_, ?_⟩ (C.oks_.push ok hB h9), fun b h => ⟨hb b (by omega) (by omega) (by omega) (by omega) (by omega), F.2.2.1 b (by omega)⟩, F.2.2.2.1⟩
  · by_cases e : b = m
    · subst e
      rw [F.2.1 k (by unfold scm at h1; omega), a3 k (by omega)]
    · rw [hb b e h3 (by unfold scm at h1; omega) (by unfold scm at h1; omega) h4]
  · rw [F.2.1 39 (by omega)]; exact a1
  · simp only; rw [push_len]; omega
  · simp only at hj ⊢
    rw [h17]
    refine (a2 j hj).log (fun y w hy => hLG y w ?_)
    rw [push_len] at hj
    cases j with
    | zero => rw [push_0] at hy; exact hy
    | succ j =>
      rw [push_s (by omega)] at hy
      have := (chn_at _ _ j hd (by omega)).1
      omega
  · simp only
    rw [F.2.1 47 (by omega), a3 47 (by omega), hb (m + 20) (by omega) (by omega) (by omega) (by omega) (by omega)]
    exact C.s_.2.2.2.2
/-- the log of a row whose day is the same -/
theorem LR.same {g g' : Nat → Int32} (h : LR g T LG) (r : ∀ k, k < 50 → g' k = nI (T' k)) (k50 : ∀ k, 50 ≤ k → g' k = g k) (e : T' 49 = T 49) : LR g' T' LG := by
  obtain ⟨h1, h2, h3⟩ := h
  refine ⟨r, by rw [k50 50 (by omega), e]; exact h2, fun i w hi hw => ?_⟩
  rw [e] at hi ⊢
  rw [k50 _ (by omega)]
  exact h3 i w hi hw
theorem MIv.rm (C : MIv G I J R K n m t c tl tt vl st tp lw sp ap sg B) {I1 : Nat → Nat → Int32} (a3 : ∀ k, k ≠ 39 → I1 m k = I m k) (a4 : ∀ b, b ≠ m → b ≠ m + 17 → I1 b = I b) : LMo I1 J m lw.1 tl tt lw.2.1 ∧ HLD I1 m lw.1 lw.2.1 (aW lw) ∧ VM I1 m vl.1 vl.2.1 ∧ MR I1 (m + 13) st.1 ∧ LR (I1 (m + 13)) st.1 st.2.1 := by
  refine ⟨?_, C.hld.same (a3 34 (by omega)), ?_, ?_, ?_⟩
  · unfold LMo
    rw [a3 7 (by omega), a4 _ (by omega) (by omega), a4 _ (by omega) (by omega), a4 _ (by omega) (by omega), a4 _ (by omega) (by omega)]
    exact C.lm_
  · unfold VM
    rw [a3 26 (by omega), a4 _ (by omega) (by omega)]
    exact C.v_.1
  · unfold MR
    rw [a4 _ (by omega) (by omega)]
    exact C.mr
  · rw [a4 _ (by omega) (by omega)]
    exact C.s_.1
theorem FMo.of {I1 I7 : Nat → Nat → Int32} {b : Nat} (hb : b ≠ m) (f : ∀ q, q ≠ b → I7 q = I1 q) : FMo (fun q => q = b) m I1 I7 J J R R := ⟨fun q a1 _ _ _ => f q a1, fun k _ => by rw [f m (fun e => hb e.symm)], fun _ _ => rfl, fun _ _ => rfl, fun _ _ => rfl⟩
theorem LMo.of {I1 I7 : Nat → Nat → Int32} {b nl : Nat} {cd : Nat → List Int32} (L : LMo I1 J m nl tl tt cd) (hb : b = m + 13 ∨ b = m + 14) (f : ∀ q, q ≠ b → I7 q = I1 q) : LMo I7 J m nl tl tt cd := by
  unfold LMo
  rw [f m (by omega), f (m + 2) (by omega), f (m + 3) (by omega), f (m + 4) (by omega), f (m + 16) (by omega)]
  exact L
theorem d49 {k : Nat} (hk : k ≠ 49) {y : Nat} : up T k y 49 = T 49 := up_ne (by omega)
theorem pard49 {Wc : Nat → Nat → Nat → Nat → Nat → Nat → Nat} {Y : Nat → Nat} {k : Nat} (hk : k < 9) (h1 : T (3 * k) < 6) (h2 : T (3 * k + 1) < 6) : pardonT Wc Y T k 49 = T 49 := by
  unfold pardonT paintT
  rw [up_ne (by omega), zeroT_ne (by omega), up_ne (by omega), up_ne (by omega), up_ne (by omega)]
-- forgive
theorem x_forgive_n (C : CIv G I R K n x m v w q nx lo M lk sq vl st tp lw sp ap sg B) (hp : shut st.1 p) : XC G (d + 3) mX11_forgive [.ref x, .int p] I J R K n x m (-1) vl st tp lw sp ap sg B := by
  intro Q hQ
  have g := C.gm
  refine zC.of (by decide) (Nat.le_of_ble_eq_true rfl) ?_
  refine wX11_forgive_0 x v w q C.X _ ?_
  refine x_prep C ?_
  intro I1 C1 kr f1
  refine ⟨_, rfl, rfl, ?_⟩
  refine c_pardon_n (X_5 C.X) C1.cs C1.oks.1 hp ?_
  refine ⟨_, _, rfl, rfl, ?_⟩
  refine c_acted_n C.X ?_
  refine ⟨_, _, rfl, rfl, ?_⟩
  exact hQ I1 v w q nx lo M lk sq C1 (fun b b1 b2 => f1 b (by have := g.1; have := C.hr.2.2.1; omega))
theorem x_forgive_y (C : CIv G I R K n x m v w q nx lo M lk sq vl st tp lw sp ap sg B) {k : Nat} (hk : k < 9) (ho : 0 < st.1 (3 * k + 2)) (hB : B + 1 < 100000) : XC G (d + 6) mX11_forgive [.ref x, .int (nI k)] I J R K n x m (nI (yardsA (aW lw) vl.2.1 st.1 k)) vl (actS st (pardonT (aW lw) vl.2.1 st.1 k)) tp lw sp ap sg (B + 1) := by
  intro Q hQ
  have g := C.gm
  have h6 := C.okv.1.1
  obtain ⟨o2, o3, -⟩ := (C.oks.1.1 k hk).2 ho
  have hyd := yardsA_le (Wc := aW lw) (Y := vl.2.1) (T := st.1) (p := k)
  have b4 := bareA_le (T := st.1) C.okv.1 o3
  refine zC.of (by decide) (Nat.le_of_ble_eq_true rfl) ?_
  refine wX11_forgive_0 x v w q C.X _ ?_
  refine x_prep C ?_
  intro I1 C1 kr f1
  refine ⟨_, rfl, rfl, ?_⟩
  refine c_pardon (X_5 C.X) C1.g1 C1.cv.1 C.okv.1 C1.cs C.oks.1 C1.lwh hk ho ?_
  intro I2 cs F2
  refine ⟨_, _, rfl, rfl, ?_⟩
  refine x_act0 (by omega) C1 kr cs F2 (pard49 hk (by omega) (by omega)) (C.oks.1.pardon C.okv.1 hB hk ho) (by omega) ?_
  intro I' nx' M' c1 c2
  exact ⟨_, _, rfl, rfl, hQ I' v w q nx' lo M' lk sq c1 (fun b b1 b2 => by rw [c2 b b1 b2]; exact f1 b (by have := g.1; have := C.hr.2.2.1; omega))⟩
theorem y_forgive_n (C : MIv G I J R K n m t c tl tt vl st tp lw sp ap sg B) (hp : shut st.1 p) : YL G (d + 2) mX12_forgive [.ref m, .int p] I J R K n m tl tt (-1) vl st tp lw sp ap sg B := by
  intro Q hQ
  obtain ⟨M1, f1⟩ := C.z0 (y := 0)
  refine zC.of (by decide) (Nat.le_of_ble_eq_true rfl) ?_
  refine wX12_forgive_0 m t c C.S_ _ ?_
  rintro _ rfl
  refine c_mo_n (Mod_26 C.S_) M1.mr hp ?_
  refine ⟨_, _, rfl, rfl, ?_⟩
  exact ⟨fun _ => hQ _ J R t c M1 (fun b hb => ⟨f1 b hb, rfl⟩) (fun _ _ => rfl), fun h => absurd rfl h⟩
theorem y_forgive_y (C : MIv G I J R K n m t c tl tt vl st tp lw sp ap sg B) (hd : chn (st.1 49) st.2.2.1) {k : Nat} (hk : k < 9) (ho : 0 < st.1 (3 * k + 2)) (hB : B + 1 < 100000) : YL G (d + 37) mX12_forgive [.ref m, .int (nI k)] I J R K n m tl tt (nI (yardsA (aW lw) vl.2.1 st.1 k)) vl (actS st (pardonT (aW lw) vl.2.1 st.1 k)) tp lw sp ap sg (B + 1) := by
  intro Q hQ
  have h6 := C.okv_.1.1
  obtain ⟨o2, o3, -⟩ := (C.oks_.1.1 k hk).2 ho
  obtain ⟨M1, f1⟩ := C.z0 (y := 0)
  refine zC.of (by decide) (Nat.le_of_ble_eq_true rfl) ?_
  refine wX12_forgive_0 m t c C.S_ _ ?_
  rintro _ rfl
  refine c_mo_y (Mod_26 C.S_) M1.mr M1.oks_.1 hk ho ?_
  refine ⟨_, _, rfl, rfl, ?_⟩
  refine ⟨fun h => absurd h (by decide), fun _ => ?_⟩
  refine c_remember M1.S_ M1.s_.1 M1.s_.2.1 M1.s_.2.2.1 M1.s_.2.2.2.1 ?_
  intro I5 a1 a2 a3 a4
  refine ⟨_, rfl, rfl, ?_⟩
  obtain ⟨b1, b2, b3, b4, b5⟩ := M1.rm a3 a4
  refine c_forgives M1.S_ (Mod_26 M1.S_) (Or.inl rfl) b1 b2 b3 M1.okv_.1 b4 M1.oks_.1 hk ho ?_
  intro I7 J8 R9 t' c' S' L' F' r' k'
  obtain ⟨e1, e2, e3⟩ := y_act M1 a1 a2 a3 a4 S' L' F' (b5.same r' k' (pard49 hk (by omega) (by omega))) (fun _ _ _ => rfl) (M1.oks_.1.pardon M1.okv_.1 hB hk ho) (by omega) (by rw [pard49 hk (by omega) (by omega)]; exact M1.oks_.2.2.2.1) hd
  exact ⟨_, _, _, _, rfl, rfl, _, _, S', hQ I7 J8 R9 t' c' e1 (fun b hb => ⟨by rw [(e2 b hb).1]; exact f1 b hb, (e2 b hb).2⟩) e3⟩
-- paint
theorem x_paint_n (C : CIv G I R K n x m v w q nx lo M lk sq vl st tp lw sp ap sg B) (hp : ¬ canPaint vl.1 vl.2.1 st.1 p p2) : XC G (d + 4) mX11_paint [.ref x, .int p, .int p2] I J R K n x m (-1) vl st tp lw sp ap sg B := by
  intro Q hQ
  have g := C.gm
  refine zC.of (by decide) (Nat.le_of_ble_eq_true rfl) ?_
  refine wX11_paint_0 x v w q C.X _ _ ?_
  refine x_prep C ?_
  intro I1 C1 kr f1
  refine ⟨_, rfl, rfl, ?_⟩
  refine c_daub_n (X_5 C.X) C1.cv.1 C1.okv.1 C1.cs C1.oks.1 hp ?_
  refine ⟨_, _, rfl, rfl, ?_⟩
  refine c_acted_n C.X ?_
  refine ⟨_, _, rfl, rfl, ?_⟩
  exact hQ I1 v w q nx lo M lk sq C1 (fun b b1 b2 => f1 b (by have := g.1; have := C.hr.2.2.1; omega))
theorem x_paint_y (C : CIv G I R K n x m v w q nx lo M lk sq vl st tp lw sp ap sg B) {f k : Nat} (hf : f < vl.1) (h1 : 1 ≤ k) (h9 : k ≤ 9) (hl : k ≤ st.1 47) (hb : k ≤ bareA vl.2.1 st.1 f) : XC G (d + 4) mX11_paint [.ref x, .int (nI f), .int (nI k)] I J R K n x m (nI (st.1 (28 + 3 * f) + k)) vl (actS st (daubT st.1 f k)) tp lw sp ap sg B := by
  intro Q hQ
  have g := C.gm
  have h6 := C.okv.1.1
  have h4 := C.oks.1.t C.okv.1 (f := f) (by omega)
  refine zC.of (by decide) (Nat.le_of_ble_eq_true rfl) ?_
  refine wX11_paint_0 x v w q C.X _ _ ?_
  refine x_prep C ?_
  intro I1 C1 kr f1
  refine ⟨_, rfl, rfl, ?_⟩
  refine c_daub (X_5 C.X) C1.cv.1 C1.okv.1 C1.cs C1.oks.1 hf h1 h9 hl hb ?_
  intro I2 cs F2
  refine ⟨_, _, rfl, rfl, ?_⟩
  refine x_act0 (by omega) C1 kr cs F2 (by unfold daubT; rw [up_ne (by omega), up_ne (by omega)]) (C.oks.1.daub C.okv.1 hf hl hb) (Nat.le_refl _) ?_
  intro I' nx' M' c1 c2
  exact ⟨_, _, rfl, rfl, hQ I' v w q nx' lo M' lk sq c1 (fun b b1 b2 => by rw [c2 b b1 b2]; exact f1 b (by have := g.1; have := C.hr.2.2.1; omega))⟩
theorem y_paint_n (C : MIv G I J R K n m t c tl tt vl st tp lw sp ap sg B) (hp : ¬ canPaint vl.1 vl.2.1 st.1 p p2) : YC G (d + 4) mX12_paint [.ref m, .int p, .int p2] I J R K n m t c tl tt (-1) vl st tp lw sp ap sg B := by
  intro Q hQ
  obtain ⟨M1, f1⟩ := C.z0 (y := 0)
  refine zC.of (by decide) (Nat.le_of_ble_eq_true rfl) ?_
  refine wX12_paint_0 m t c C.S_ _ _ ?_
  rintro _ rfl
  refine c_canPaint C.S_ (Mod_26 C.S_) M1.v_.1 M1.okv_.1 M1.mr M1.oks_.1 (fun h => absurd h hp) (fun _ => ?_)
  exact ⟨_, _, rfl, rfl, fun _ => hQ _ M1 f1, fun h => absurd rfl h⟩
theorem y_paint_y (C : MIv G I J R K n m t c tl tt vl st tp lw sp ap sg B) (hd : chn (st.1 49) st.2.2.1) {f k : Nat} (hf : f < vl.1) (h1 : 1 ≤ k) (h9 : k ≤ 9) (hl : k ≤ st.1 47) (hb : k ≤ bareA vl.2.1 st.1 f) : YC G (d + 4) mX12_paint [.ref m, .int (nI f), .int (nI k)] I J R K n m t c tl tt (nI (st.1 (28 + 3 * f) + k)) vl (actS st (daubT st.1 f k)) tp lw sp ap sg B := by
  intro Q hQ
  have h6 := C.okv_.1.1
  obtain ⟨M1, f1⟩ := C.z0 (y := 0)
  refine zC.of (by decide) (Nat.le_of_ble_eq_true rfl) ?_
  refine wX12_paint_0 m t c C.S_ _ _ ?_
  rintro _ rfl
  refine c_canPaint C.S_ (Mod_26 C.S_) M1.v_.1 M1.okv_.1 M1.mr M1.oks_.1 (fun _ => ?_) (fun h => absurd ⟨f, k, rfl, rfl, hf, h1, h9, hl, hb⟩ h)
  refine ⟨_, _, rfl, rfl, fun h => absurd h (by decide), fun _ => ?_⟩
  refine c_remember M1.S_ M1.s_.1 M1.s_.2.1 M1.s_.2.2.1 M1.s_.2.2.2.1 ?_
  intro I5 a1 a2 a3 a4
  refine ⟨_, rfl, rfl, ?_⟩
  obtain ⟨b1, b2, b3, b4, b5⟩ := M1.rm a3 a4
  refine c_paints (Mod_26 M1.S_) b4 (f := f) (k := k) (by omega) hl ?_
  intro I7 r' k' f'
  refine ⟨_, rfl, rfl, ?_⟩
  have e49 : daubT st.1 f k 49 = st.1 49 := by unfold daubT; rw [up_ne (by omega), up_ne (by omega)]
  obtain ⟨e1, e2, e3⟩ := y_act M1 a1 a2 a3 a4 M1.S_ (b1.of (Or.inl rfl) f') (FMo.of (by omega) f') (b5.same r' k' e49) (fun _ _ _ => rfl) (M1.oks_.1.daub M1.okv_.1 hf hl hb) (Nat.le_refl _) (by rw [e49]; exact M1.oks_.2.2.2.1) hd
  have a3' : (27 + 3 * nI f + 1 : Int32) = nI (28 + 3 * f) := by
    rw [show (3 : Int32) = nI 3 from rfl, pk_mul, show (27 : Int32) = nI 27 from rfl, nI_add, nI_1, show 27 + 3 * f + 1 = 28 + 3 * f by omega]
  rw [a3', tk_c (by omega), r' (28 + 3 * f) (by omega)]
  refine ⟨(tk_in (by omega) (by omega)).mpr (by omega), qI ?_ (hQ I7 e1 (fun b hb => by rw [(e2 b hb).1]; exact f1 b hb))⟩
  unfold daubT
  rw [up_ne (by omega), up_at]
-- inspect
theorem x_inspect_n (C : CIv G I R K n x m v w q nx lo M lk sq vl st tp lw sp ap sg B) (hp : ¬ canInspect vl.1 st.1 p) : XC G (d + 3) mX11_inspect [.ref x, .int p] I J R K n x m (-1) vl st tp lw sp ap sg B := by
  intro Q hQ
  have g := C.gm
  refine zC.of (by decide) (Nat.le_of_ble_eq_true rfl) ?_
  refine wX11_inspect_0 x v w q C.X _ ?_
  refine x_prep C ?_
  intro I1 C1 kr f1
  refine ⟨_, rfl, rfl, ?_⟩
  refine c_thumb_n (X_5 C.X) C1.cv.1 C1.okv.1 C1.cs C1.oks.1 hp ?_
  refine ⟨_, _, rfl, rfl, ?_⟩
  refine c_acted_n C.X ?_
  refine ⟨_, _, rfl, rfl, ?_⟩
  exact hQ I1 v w q nx lo M lk sq C1 (fun b b1 b2 => f1 b (by have := g.1; have := C.hr.2.2.1; omega))
theorem x_inspect_y (C : CIv G I R K n x m v w q nx lo M lk sq vl st tp lw sp ap sg B) {f : Nat} (hf : f < vl.1) (h1 : 0 < st.1 (28 + 3 * f)) : XC G (d + 3) mX11_inspect [.ref x, .int (nI f)] I J R K n x m (nI (st.1 (28 + 3 * f))) vl (actS st (thumbT st.1 f)) tp lw sp ap sg B := by
  intro Q hQ
  have g := C.gm
  have h6 := C.okv.1.1
  have h4 := C.oks.1.t C.okv.1 (f := f) (by omega)
  refine zC.of (by decide) (Nat.le_of_ble_eq_true rfl) ?_
  refine wX11_inspect_0 x v w q C.X _ ?_
  refine x_prep C ?_
  intro I1 C1 kr f1
  refine ⟨_, rfl, rfl, ?_⟩
  refine c_thumb (X_5 C.X) C1.cv.1 C1.okv.1 C1.cs C1.oks.1 hf h1 ?_
  intro I2 cs F2
  refine ⟨_, _, rfl, rfl, ?_⟩
  refine x_act0 (by omega) C1 kr cs F2 (by unfold thumbT; rw [up_ne (by omega), up_ne (by omega)]) (C.oks.1.thumb C.okv.1 hf) (Nat.le_refl _) ?_
  intro I' nx' M' c1 c2
  exact ⟨_, _, rfl, rfl, hQ I' v w q nx' lo M' lk sq c1 (fun b b1 b2 => by rw [c2 b b1 b2]; exact f1 b (by have := g.1; have := C.hr.2.2.1; omega))⟩
theorem y_inspect_n (C : MIv G I J R K n m t c tl tt vl st tp lw sp ap sg B) (hp : ¬ canInspect vl.1 st.1 p) : YC G (d + 3) mX12_inspect [.ref m, .int p] I J R K n m t c tl tt (-1) vl st tp lw sp ap sg B := by
  intro Q hQ
  obtain ⟨M1, f1⟩ := C.z0 (y := 0)
  refine zC.of (by decide) (Nat.le_of_ble_eq_true rfl) ?_
  refine wX12_inspect_0 m t c C.S_ _ ?_
  rintro _ rfl
  refine c_canInspect C.S_ (Mod_26 C.S_) M1.v_.1 M1.okv_.1 M1.mr M1.oks_.1 (fun h => absurd h hp) (fun _ => ?_)
  exact ⟨_, _, rfl, rfl, fun _ => hQ _ M1 f1, fun h => absurd rfl h⟩
theorem y_inspect_y (C : MIv G I J R K n m t c tl tt vl st tp lw sp ap sg B) (hd : chn (st.1 49) st.2.2.1) {f : Nat} (hf : f < vl.1) (h1 : 0 < st.1 (28 + 3 * f)) : YC G (d + 3) mX12_inspect [.ref m, .int (nI f)] I J R K n m t c tl tt (nI (st.1 (28 + 3 * f))) vl (actS st (thumbT st.1 f)) tp lw sp ap sg B := by
  intro Q hQ
  have h6 := C.okv_.1.1
  have h4 := C.oks_.1.t C.okv_.1 (f := f) (by omega)
  have h48 := C.oks_.1.2.2.2.2.2.2.2.1
  obtain ⟨M1, f1⟩ := C.z0 (y := 0)
  refine zC.of (by decide) (Nat.le_of_ble_eq_true rfl) ?_
  refine wX12_inspect_0 m t c C.S_ _ ?_
  rintro _ rfl
  refine c_canInspect C.S_ (Mod_26 C.S_) M1.v_.1 M1.okv_.1 M1.mr M1.oks_.1 (fun _ => ?_) (fun h => absurd ⟨f, rfl, hf, h1⟩ h)
  refine ⟨_, _, rfl, rfl, fun h => absurd h (by decide), fun _ => ?_⟩
  refine c_remember M1.S_ M1.s_.1 M1.s_.2.1 M1.s_.2.2.1 M1.s_.2.2.2.1 ?_
  intro I5 a1 a2 a3 a4
  refine ⟨_, rfl, rfl, ?_⟩
  obtain ⟨b1, b2, b3, b4, b5⟩ := M1.rm a3 a4
  refine c_inspects (Mod_26 M1.S_) b4 (f := f) (by omega) (by omega) (by omega) ?_
  intro I7 r' k' f'
  refine ⟨_, _, rfl, rfl, ?_⟩
  have e49 : thumbT st.1 f 49 = st.1 49 := by unfold thumbT; rw [up_ne (by omega), up_ne (by omega)]
  obtain ⟨e1, e2, e3⟩ := y_act M1 a1 a2 a3 a4 M1.S_ (b1.of (Or.inl rfl) f') (FMo.of (by omega) f') (b5.same r' k' e49) (fun _ _ _ => rfl) (M1.oks_.1.thumb M1.okv_.1 hf) (Nat.le_refl _) (by rw [e49]; exact M1.oks_.2.2.2.1) hd
  exact hQ I7 e1 (fun b hb => by rw [(e2 b hb).1]; exact f1 b hb)
-- sin
theorem x_sin_n (C : CIv G I R K n x m v w q nx lo M lk sq vl st tp lw sp ap sg B) (hp : ¬ canSin vl.1 st.1 p p2 p3) : XC G (d + 3) mX11_sin [.ref x, .int p, .int p2, .int p3] I J R K n x m (-1) vl st tp lw sp ap sg B := by
  intro Q hQ
  have g := C.gm
  refine zC.of (by decide) (Nat.le_of_ble_eq_true rfl) ?_
  refine wX11_sin_0 x v w q C.X _ _ _ ?_
  refine x_prep C ?_
  intro I1 C1 kr f1
  refine ⟨_, rfl, rfl, ?_⟩
  refine c_offend_n (X_5 C.X) C1.cv.1 C1.okv.1 C1.cs C1.oks.1 hp ?_
  refine ⟨_, _, rfl, rfl, ?_⟩
  refine c_acted_n C.X ?_
  refine ⟨_, _, rfl, rfl, ?_⟩
  exact hQ I1 v w q nx lo M lk sq C1 (fun b b1 b2 => f1 b (by have := g.1; have := C.hr.2.2.1; omega))
theorem x_sin_y (C : CIv G I R K n x m v w q nx lo M lk sq vl st tp lw sp ap sg B) {a b z : Nat} (ha : a < vl.1) (hb : b < vl.1) (hab : a ≠ b) (z1 : 1 ≤ z) (z9 : z ≤ 9) (hf : freeA st.1 9 0 < 9) : XC G (d + 3) mX11_sin [.ref x, .int (nI a), .int (nI b), .int (nI z)] I J R K n x m (nI (freeA st.1 9 0)) vl (actS st (sinT st.1 (freeA st.1 9 0) a b z)) tp lw sp ap sg B := by
  intro Q hQ
  have g := C.gm
  refine zC.of (by decide) (Nat.le_of_ble_eq_true rfl) ?_
  refine wX11_sin_0 x v w q C.X _ _ _ ?_
  refine x_prep C ?_
  intro I1 C1 kr f1
  refine ⟨_, rfl, rfl, ?_⟩
  refine c_offend (X_5 C.X) C1.cv.1 C1.okv.1 C1.cs C1.oks.1 ha hb hab z1 z9 hf ?_
  intro I2 cs F2
  refine ⟨_, _, rfl, rfl, ?_⟩
  refine x_act0 (by omega) C1 kr cs F2 (sinT_ne (by omega)) (C.oks.1.sin hf ha hb hab z9) (Nat.le_refl _) ?_
  intro I' nx' M' c1 c2
  exact ⟨_, _, rfl, rfl, hQ I' v w q nx' lo M' lk sq c1 (fun b b1 b2 => by rw [c2 b b1 b2]; exact f1 b (by have := g.1; have := C.hr.2.2.1; omega))⟩
theorem y_sin_n (C : MIv G I J R K n m t c tl tt vl st tp lw sp ap sg B) (hp : ¬ canSin vl.1 st.1 p p2 p3) : YC G (d + 3) mX12_sin [.ref m, .int p, .int p2, .int p3] I J R K n m t c tl tt (-1) vl st tp lw sp ap sg B := by
  intro Q hQ
  have h6 := C.okv_.1.1
  obtain ⟨M1, f1⟩ := C.z0 (y := 0)
  replace hQ := hQ _ M1 f1
  have hfl := freeA_le st.1 9 0
  refine zC.of (by decide) (Nat.le_of_ble_eq_true rfl) ?_
  refine wX12_sin_0 m t c C.S_ _ _ _ ?_
  rintro _ rfl
  refine c_freePlace (Mod_26 C.S_) M1.mr M1.oks_.1 ?_
  refine ⟨_, _, rfl, rfl, ?_⟩
  refine c_areTwo C.S_ M1.v_.1.1 h6 (fun h => ?_) (fun _ => ⟨_, _, rfl, rfl, fun _ => hQ, fun h => absurd rfl h⟩)
  obtain ⟨a, b, ha, hb, hab, rfl, rfl⟩ := h
  refine ⟨_, _, rfl, rfl, fun h => absurd h (by decide), fun _ => ?_⟩
  refine c_isIn32 (a := 1) (z := 9) rfl rfl (fun g1 g2 => ?_) (fun _ => ⟨_, _, rfl, rfl, fun _ => hQ, fun h => absurd rfl h⟩)
  obtain ⟨z, hz, rfl, e⟩ := tk_nat (p := p3) (by omega)
  refine ⟨_, _, rfl, rfl, fun h => absurd h (by decide), fun _ => ⟨fun _ => hQ, fun hf => ?_⟩⟩
  rw [show (9 : Int32) = nI 9 from rfl, tk_eq (by omega) (by omega)] at hf
  exact absurd ⟨a, b, z, rfl, rfl, rfl, ha, hb, hab, by omega, by omega, by omega⟩ hp
theorem y_sin_y (C : MIv G I J R K n m t c tl tt vl st tp lw sp ap sg B) (hd : chn (st.1 49) st.2.2.1) {a b z : Nat} (ha : a < vl.1) (hb : b < vl.1) (hab : a ≠ b) (z1 : 1 ≤ z) (z9 : z ≤ 9) (hf : freeA st.1 9 0 < 9) : YC G (d + 4) mX12_sin [.ref m, .int (nI a), .int (nI b), .int (nI z)] I J R K n m t c tl tt (nI (freeA st.1 9 0)) vl (actS st (sinT st.1 (freeA st.1 9 0) a b z)) tp lw sp ap sg B := by
  intro Q hQ
  have h6 := C.okv_.1.1
  obtain ⟨M1, f1⟩ := C.z0 (y := 0)
  refine zC.of (by decide) (Nat.le_of_ble_eq_true rfl) ?_
  refine wX12_sin_0 m t c C.S_ _ _ _ ?_
  rintro _ rfl
  refine c_freePlace (Mod_26 C.S_) M1.mr M1.oks_.1 ?_
  refine ⟨_, _, rfl, rfl, ?_⟩
  refine c_areTwo C.S_ M1.v_.1.1 h6 (fun _ => ?_) (fun h => absurd ⟨a, b, ha, hb, hab, rfl, rfl⟩ h)
  refine ⟨_, _, rfl, rfl, fun h => absurd h (by decide), fun _ => ?_⟩
  refine c_isIn32 (a := 1) (z := 9) rfl rfl (fun _ _ => ?_) (fun h => absurd (h (by rw [tk_t (by omega)]; omega) (by rw [tk_t (by omega)]; omega)) id)
  refine ⟨_, _, rfl, rfl, fun h => absurd h (by decide), fun _ => ⟨fun h => ?_, fun _ => ?_⟩⟩
  · rw [show (9 : Int32) = nI 9 from rfl, tk_eq (by omega) (by omega)] at h
    omega
  refine c_remember M1.S_ M1.s_.1 M1.s_.2.1 M1.s_.2.2.1 M1.s_.2.2.2.1 ?_
  intro I5 a1 a2 a3 a4
  refine ⟨_, rfl, rfl, ?_⟩
  obtain ⟨b1, b2, b3, b4, b5⟩ := M1.rm a3 a4
  refine c_sins (Mod_26 M1.S_) b4 M1.oks_.1 hf ?_
  intro I7 r' k' f'
  refine ⟨_, rfl, rfl, ?_⟩
  have e49 : sinT st.1 (freeA st.1 9 0) a b z 49 = st.1 49 := sinT_ne (by omega)
  obtain ⟨e1, e2, e3⟩ := y_act M1 a1 a2 a3 a4 M1.S_ (b1.of (Or.inl rfl) f') (FMo.of (by omega) f') (b5.same r' k' e49) (fun _ _ _ => rfl) (M1.oks_.1.sin hf ha hb hab z9) (Nat.le_refl _) (by rw [e49]; exact M1.oks_.2.2.2.1) hd
  exact hQ I7 e1 (fun b hb => by rw [(e2 b hb).1]; exact f1 b hb)
end
