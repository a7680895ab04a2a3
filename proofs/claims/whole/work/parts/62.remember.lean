/-! THE FACE: an act is remembered -/
theorem LR.congr {g g' : Nat → Int32} {T : Nat → Nat} {LG : Nat → Nat → Nat} (h : LR g T LG) (e : ∀ k, k < 231 → g' k = g k) : LR g' T LG := by
  obtain ⟨h1, h2, h3⟩ := h
  refine ⟨fun k hk => by rw [e k (by omega)]; exact h1 k hk, by rw [e 50 (by omega)]; exact h2, fun i w hi hw => ?_⟩
  rw [e _ (by omega)]
  exact h3 i w hi hw
theorem LR.log {g : Nat → Int32} {T : Nat → Nat} {LG LG' : Nat → Nat → Nat} (h : LR g T LG) (e : ∀ y w, y < T 49 → LG' y w = LG y w) : LR g T LG' := by
  obtain ⟨h1, h2, h3⟩ := h
  refine ⟨h1, h2, fun i w hi hw => ?_⟩
  rw [e _ _ (by omega)]
  exact h3 i w hi hw
/-- the log with a day more -/
def dlog (nf : Nat) (Y T : Nat → Nat) (LG : Nat → Nat → Nat) : Nat → Nat → Nat := fun y w => if y = T 49 then entA nf Y T w else LG y w
theorem LR.day {g g' : Nat → Int32} {nf : Nat} {Y T : Nat → Nat} {LG : Nat → Nat → Nat} {j' : Nat} (h : LR g T LG) (r : ∀ k, k < 50 → g' k = nI (dayT nf Y T k)) (l : logT (min 60 (T 49)) j' g g' nf Y T) : LR g' (dayT nf Y T) (dlog nf Y T LG) := by
  obtain ⟨h1, h2, h3⟩ := h
  obtain ⟨l1, l2, l3, l4, l5⟩ := l
  have e49 : dayT nf Y T 49 = T 49 + 1 := up_at
  refine ⟨r, ?_, fun i w hi hw => ?_⟩
  · rw [l3, e49]
    by_cases hc : min 60 (T 49) < 60
    · rw [l1 hc]; congr 1; omega
    · rw [l2 (by omega)]; congr 1; omega
  · rw [e49] at hi ⊢
    unfold dlog
    by_cases hc : min 60 (T 49) < 60
    · have ej := l1 hc
      by_cases hi2 : i < j'
      · rw [l4 i w hi2 hw, show i + (min 60 (T 49) - j') = i by omega, h3 i w (by omega) hw, if_neg (by omega)]
        congr 2
        omega
      · rw [show i = j' by omega, l5 w hw, if_pos (by omega)]
    · have ej := l2 (by omega)
      by_cases hi2 : i < j'
      · rw [l4 i w hi2 hw, show i + (min 60 (T 49) - j') = i + 1 by omega, h3 (i + 1) w (by omega) hw, if_neg (by omega)]
        congr 2
        omega
      · rw [show i = j' by omega, l5 w hw, if_pos (by omega)]
section
variable {G : zG} {d : Nat} {I : Nat → Nat → Int32} {J : Nat → Nat → Int64} {R : Nat → Nat → Option Nat} {K : Nat → Nat × Nat} {n : Nat} {x m v w q nx lo M t c : Nat} {lk sq : Nat → Nat} {tl : Nat → Nat} {tt : Nat → Nat → Nat} {vl : Vt} {st : Stt} {tp : Tpt} {lw : Lwt} {sp : Spt} {ap : Nat} {sg : Sgt} {B B' : Nat} {p : Int32} {T T' : Nat → Nat} {hs : List (Nat → Nat)} {LG LG' : Nat → Nat → Nat} {Q : Option Value → zH → Prop}
theorem l_store (S : hMod G R K n m t c) {a : Nat} (ha : a < 40) (h39 : I m 39 = nI a) (hQ : ∀ I', (∀ y, y < 231 → I' (m + 17) (231 * a + y) = I (m + 13) y) → (∀ y, y < 231 * a → I' (m + 17) y = I (m + 17) y) → I' m 39 = nI (a + 1) → (∀ k, k ≠ 39 → I' m k = I m k) → (∀ b, b ≠ m → b ≠ m + 17 → I' b = I b) → Q none (I', J, R, K, n)) :
    ∀ (j k : Nat) (I1 : Nat → Nat → Int32), k + j = 231 → (∀ y, y < k → I1 (m + 17) (231 * a + y) = I (m + 13) y) → (∀ y, y < 231 * a → I1 (m + 17) y = I (m + 17) y) → (∀ b, b ≠ m + 17 → I1 b = I b) → zV G (d + 1) mX12_remember 0 0 52 [(0, .ref m), (1, .int (nI k))] [] (I1, J, R, K, n) Q := by
  intro j
  induction j with
  | zero =>
    intro k I1 hk r1 r2 f1
    obtain rfl : k = 231 := by omega
    refine wX12_remember_52 m t c S _ ⟨fun _ => ?_, fun h => absurd (by decide) h⟩
    intro I3 e3
    rw [f1 m (by omega), h39, nI_1] at e3
    refine hQ I3 (fun y hy => by rw [e3, zU_off (by omega)]; exact r1 y hy) (fun y hy => by rw [e3, zU_off (by omega)]; exact r2 y hy) (by rw [e3, zU_self]) (fun k hk => by rw [e3, zU_ne (by omega), f1 m (by omega)]) (fun b h1 h2 => by rw [e3, zU_off h1, f1 b h2])
  | succ j ih =>
    intro k I1 hk r1 r2 f1
    refine wX12_remember_52 m t c S _ ⟨fun h => ?_, fun _ => ?_⟩
    · rw [show (231 : Int32) = nI 231 from rfl, tk_le (by omega) (by omega)] at h
      omega
    · rw [f1 m (by omega), h39, show (231 : Int32) = nI 231 from rfl, pk_mul, nI_add, tk_c (by omega), tk_c (by omega), nI_1, f1 (m + 13) (by omega)]
      refine ⟨(tk_in (by omega) (by omega)).mpr (by omega), (tk_in (by omega) (by omega)).mpr (by omega), ?_⟩
      intro I5 e5
      refine ih (k + 1) I5 (by omega) (fun y hy => ?_) (fun y hy => by rw [e5, zU_ne (by omega)]; exact r2 y hy) (fun b hb => by rw [e5, zU_off hb]; exact f1 b hb)
      rw [e5, zU_a]
      by_cases e : y = k
      · subst e; rw [if_pos rfl]
      · rw [if_neg (by omega)]; exact r1 y (by omega)
theorem c_remember (S : hMod G R K n m t c) (h0 : LR (I (m + 13)) T LG) (h39 : I m 39 = nI hs.length) (hl : hs.length ≤ 40) (hr : ∀ j, j < hs.length → LR (fun k => I (m + 17) (231 * (hs.length - 1 - j) + k)) (nth hs j) LG) (hQ : ∀ I', I' m 39 = nI (push T hs).length → (∀ j, j < (push T hs).length → LR (fun k => I' (m + 17) (231 * ((push T hs).length - 1 - j) + k)) (nth (push T hs) j) LG) → (∀ k, k ≠ 39 → I' m k = I m k) → (∀ b, b ≠ m → b ≠ m + 17 → I' b = I b) → Q none (I', J, R, K, n)) : zC G (d + 1) mX12_remember 0 0 [.ref m] (I, J, R, K, n) Q := by
  refine zC.of (by decide) (Nat.le_of_ble_eq_true rfl) ?_
  refine wX12_remember_0 m t c S ?_
  rw [h39, show (40 : Int32) = nI 40 from rfl, tk_eq (by omega) (by omega)]
  refine ⟨fun h40 => ?_, fun h40 => ?_⟩
  · have loop : ∀ (j k : Nat) (I1 : Nat → Nat → Int32), k + j = 9009 → (∀ y, y < k → I1 (m + 17) y = I (m + 17) (y + 231)) → (∀ y, k ≤ y → I1 (m + 17) y = I (m + 17) y) → (∀ b, b ≠ m + 17 → I1 b = I b) → zV G (d + 1) mX12_remember 0 0 11 [(0, .ref m), (1, .int (nI k))] [] (I1, J, R, K, n) Q := by
      intro j
      induction j with
      | zero =>
        intro k I1 hk r1 r2 f1
        obtain rfl : k = 9009 := by omega
        refine wX12_remember_11 m t c S _ ⟨fun _ => ?_, fun h => absurd (by decide) h⟩
        intro I7 e7
        rw [f1 m (by omega), h39, h40, show (nI 40 - 1 : Int32) = nI 39 from rfl] at e7
        have f7 : ∀ b, b ≠ m → I7 b = I1 b := fun b hb => by rw [e7, zU_off hb]
        refine l_store (I := I7) S (a := 39) (by omega) (by rw [e7, zU_self]) ?_ 231 0 I7 (by omega) (fun y hy => absurd hy (by omega)) (fun y _ => rfl) (fun b _ => rfl)
        intro I' a1 a2 a3 a4 a5
        have pl : (push T hs).length = 40 := by rw [push_len]; omega
        refine hQ I' (by rw [pl]; exact a3) (fun j hj => ?_) (fun k hk => by rw [a4 k hk, e7, zU_ne (by omega), f1 m (by omega)]) (fun b b1 b2 => by rw [a5 b b1 b2, f7 b b1, f1 b b2])
        rw [pl] at hj ⊢
        cases j with
        | zero =>
          rw [push_0]
          refine h0.congr (fun k hk => ?_)
          show I' (m + 17) (231 * 39 + k) = _
          rw [a1 k hk, f7 _ (by omega), f1 _ (by omega)]
        | succ j =>
          rw [push_s (by omega)]
          refine (hr j (by omega)).congr (fun k hk => ?_)
          show I' (m + 17) (231 * (40 - 1 - (j + 1)) + k) = I (m + 17) (231 * (hs.length - 1 - j) + k)
          rw [a2 _ (by omega), f7 _ (by omega), r1 _ (by omega), h40]
          congr 1
          omega
      | succ j ih =>
        intro k I1 hk r1 r2 f1
        refine wX12_remember_11 m t c S _ ⟨fun h => ?_, fun _ => ?_⟩
        · rw [show (9009 : Int32) = nI 9009 from rfl, tk_le (by omega) (by omega)] at h
          omega
        · rw [show (nI k + 231 : Int32) = nI (k + 231) from nI_add k 231, tk_c (by omega), tk_c (by omega), nI_1]
          refine ⟨(tk_in (by omega) (by omega)).mpr (by omega), (tk_in (by omega) (by omega)).mpr (by omega), ?_⟩
          intro I9 e9
          refine ih (k + 1) I9 (by omega) (fun y hy => ?_) (fun y hy => by rw [e9, zU_ne (by omega)]; exact r2 y (by omega)) (fun b hb => by rw [e9, zU_off hb]; exact f1 b hb)
          rw [e9, zU_a]
          by_cases e : y = k
          · subst e; rw [if_pos rfl]; exact r2 _ (by omega)
          · rw [if_neg e]; exact r1 y (by omega)
    exact loop 9009 0 I (by omega) (fun y hy => absurd hy (by omega)) (fun _ _ => rfl) (fun _ _ => rfl)
  · refine l_store (I := I) S (a := hs.length) (by omega) h39 ?_ 231 0 I (by omega) (fun y hy => absurd hy (by omega)) (fun y _ => rfl) (fun b _ => rfl)
    intro I' a1 a2 a3 a4 a5
    have pl : (push T hs).length = hs.length + 1 := by rw [push_len]; omega
    refine hQ I' (by rw [pl]; exact a3) (fun j hj => ?_) a4 a5
    rw [pl] at hj ⊢
    cases j with
    | zero =>
      rw [push_0]
      refine h0.congr (fun k hk => ?_)
      show I' (m + 17) (231 * hs.length + k) = _
      exact a1 k hk
    | succ j =>
      rw [push_s (by omega)]
      refine (hr j (by omega)).congr (fun k hk => ?_)
      show I' (m + 17) (231 * (hs.length + 1 - 1 - (j + 1)) + k) = I (m + 17) (231 * (hs.length - 1 - j) + k)
      have he : 231 * (hs.length + 1 - 1 - (j + 1)) + k < 231 * hs.length := by
        have : hs.length + 1 - 1 - (j + 1) + 1 ≤ hs.length := by omega
        have := Nat.mul_le_mul_left 231 this
        omega
      rw [a2 _ he]
      congr 1
      congr 2
      omega
/-- what is refused leaves the class's state as it was -/
theorem x_prep (C : CIv G I R K n x m v w q nx lo M lk sq vl st tp lw sp ap sg B) (hQ : ∀ I', CIv G I' R K n x m v w q nx lo M lk sq vl st tp lw sp ap sg B → KR (I' (x + 30 + nx)) st.1 → (∀ b, b ≠ x + 30 + nx → I' b = I b) → Q none (I', J, R, K, n)) : zC G (d + 2) mX1_prepare 0 0 [.ref (x + 28), .ref (x + 12)] (I, J, R, K, n) Q := by
  refine c_prepare (X_9 C.X) (X_5 C.X) C.hr C.cs (by omega) ?_
  intro I' h1 h2 h3
  refine hQ I' (C.same (fun b k hb => ?_)) h2 h3
  rw [h3 b (fun e => hb (Or.inr (Or.inr (Or.inr (Or.inr (Or.inl e))))))]
/-- what an act that a law may look at changes -/
theorem CIv.fr {A : Nat → Prop} {I' : Nat → Nat → Int32} (C : CIv G I R K n x m v w q nx lo M lk sq vl st tp lw sp ap sg B) (F : Fr A R (x + 3) I I') {b k : Nat} (hA : ¬ A b) (hs : ¬ scr x w q nx lk lw.1 b k) : I' b k = I b k := by
  refine congrFun (F b hA (fun e => hs (Or.inr (Or.inl e))) (fun y hy e => ?_)) k
  rcases C.cl.2.2.2 with ⟨-, -, h⟩ | ⟨j, hj, -, -, h⟩
  · rw [h] at hy; cases hy
  · rw [h] at hy; cases hy
    exact hs (Or.inr (Or.inr (Or.inr (Or.inr (Or.inr (Or.inr (Or.inr (Or.inr (Or.inr (Or.inr ⟨j, hj, e⟩))))))))))
theorem x_close {I2 : Nat → Nat → Int32} (C : CIv G I R K n x m v w q nx lo M lk sq vl st tp lw sp ap sg B) (hr : CHr I2 (x + 28) st.2.2.1 nx) (kr : KR (I2 (x + 30 + nx)) st.1) (cs : CS I2 (x + 12) T') (h1 : st.1 49 ≤ T' 49) (h2 : T' 49 ≤ st.1 49 + 1) (lg : CLg I2 (x + 28) (T' 49) lo (max M (T' 49)) LG') (ok : okSt vl (T', LG', push st.1 st.2.2.1, st.2.2.2) B') (f2 : ∀ b k, ¬ scr x w q nx lk lw.1 b k → ¬ (x + 12 ≤ b ∧ b < x + 19) → ¬ (x + 72 ≤ b ∧ b < x + 75) → I2 b k = I b k) (hQ : ∀ I' nx' M', CIv G I' R K n x m v w q nx' lo M' lk sq vl (T', LG', push st.1 st.2.2.1, st.2.2.2) tp lw sp ap sg B' → (∀ b, m ≤ b → b < m + 21 → I' b = I b) → Q none (I', J, R, K, n)) : zC G (d + 1) mX1_close 0 0 [.ref (x + 28)] (I2, J, R, K, n) Q := by
  have hnx := C.hr.2.2.1
  have g := C.gm
  have vw := C.vw
  have hl : ∀ j, j < lw.1 → x + 112 ≤ lk j := fun j hj => by have := g.1; have := g.2.2.1 j hj; omega
  have hq : x + 108 ≤ q := by have := g.1; have := g.2.2.2.2.1; omega
  refine c_close (X_9 C.X) hr kr ?_
  intro I' nx' a1 a2 a3
  refine hQ I' nx' (max M (T' 49)) (C.acts (st' := (T', LG', push st.1 st.2.2.1, st.2.2.2)) (fun b k hb h12 h28 => ?_) ?_ ok a1 (C.hd.push h1 h2) (lg.same (fun b b1 b2 => a2 b (by omega))) ?_) (fun b b1 b2 => ?_)
  · rw [a2 b (by omega)]
    exact f2 b k hb h12 (by omega)
  · exact cs.same (fun b b1 b2 => a2 b (by omega))
  · refine C.im.same ?_ (fun b b1 b2 => funext fun k => ?_)
    · rw [a3 4 (by omega) (by omega)]
      exact f2 _ _ (scr.sm (by omega) (by omega) hq hl (by omega) (by omega) (by omega) (by omega) (by omega) (by omega) (by omega) (by omega)) (by omega) (by omega)
    · rw [a2 b (by omega)]
      exact f2 _ _ (scr.sm (by omega) (by omega) hq hl (by omega) (by omega) (by omega) (by omega) (by omega) (by omega) (by omega) (by omega)) (by omega) (by omega)
  · have := g.1
    rw [a2 b (by omega)]
    funext k
    refine f2 b k ?_ (by omega) (by omega)
    rintro (h | h | h | h | h | h | h | h | h | h | ⟨j, hj, h⟩)
    all_goals first | omega | (have := g.2.2.1 j hj; omega) | (have := g.2.2.2.2.1; omega)
/-- an act that took place is remembered by the class -/
theorem x_acted {I2 : Nat → Nat → Int32} {y : Nat} (hy : y < 100000) (C : CIv G I R K n x m v w q nx lo M lk sq vl st tp lw sp ap sg B) (hr : CHr I2 (x + 28) st.2.2.1 nx) (kr : KR (I2 (x + 30 + nx)) st.1) (cs : CS I2 (x + 12) T') (h1 : st.1 49 ≤ T' 49) (h2 : T' 49 ≤ st.1 49 + 1) (lg : CLg I2 (x + 28) (T' 49) lo (max M (T' 49)) LG') (ok : okSt vl (T', LG', push st.1 st.2.2.1, st.2.2.2) B') (f2 : ∀ b k, ¬ scr x w q nx lk lw.1 b k → ¬ (x + 12 ≤ b ∧ b < x + 19) → ¬ (x + 72 ≤ b ∧ b < x + 75) → I2 b k = I b k) (hQ : ∀ I' nx' M', CIv G I' R K n x m v w q nx' lo M' lk sq vl (T', LG', push st.1 st.2.2.1, st.2.2.2) tp lw sp ap sg B' → (∀ b, m ≤ b → b < m + 21 → I' b = I b) → Q (some (.int (nI y))) (I', J, R, K, n)) : zC G (d + 2) mX11_acted 0 0 [.ref x, .int (nI y)] (I2, J, R, K, n) Q := by
  refine zC.of (by decide) (Nat.le_of_ble_eq_true rfl) ?_
  refine wX11_acted_0 x v w q C.X _ ?_
  refine ⟨fun h => absurd ((tk_m1 (by omega)).mp h) id, fun _ => ?_⟩
  refine x_close C hr kr cs h1 h2 lg ok f2 ?_
  intro I' nx' M' a1 a2
  exact ⟨_, rfl, rfl, hQ I' nx' M' a1 a2⟩
theorem c_acted_n (S : hX G R K n x v w q) (hQ : Q (some (.int (-1))) (I, J, R, K, n)) : zC G (d + 1) mX11_acted 0 0 [.ref x, .int (-1)] (I, J, R, K, n) Q := by
  refine zC.of (by decide) (Nat.le_of_ble_eq_true rfl) ?_
  refine wX11_acted_0 x v w q S _ ?_
  exact ⟨fun _ => hQ, fun h => absurd rfl h⟩
/-- rows that can be, with one more to go back to -/
theorem okSt.push (O : okSt vl st B) (h : okT B' vl.1 vl.2.1 T') (hB : B ≤ B') (h9 : T' 49 ≤ 999) : okSt vl (T', LG', push st.1 st.2.2.1, st.2.2.2) B' := by
  obtain ⟨o1, o2, o3, o4, o5, o6⟩ := O
  have hB2 := h.2.2.2.2.2.2.2.2.2
  refine ⟨h, fun j hj => ?_, fun y hy => (o3 y hy).wide hB hB2, h9, fun j hj => ?_, o6⟩
  · simp only at hj ⊢
    rw [push_len] at hj
    cases j with
    | zero => rw [push_0]; exact o1.wide hB hB2
    | succ j => rw [push_s (by omega)]; exact (o2 j (by omega)).wide hB hB2
  · simp only at hj ⊢
    rw [push_len] at hj
    cases j with
    | zero => rw [push_0]; exact o4
    | succ j => rw [push_s (by omega)]; exact o5 j (by omega)
end
