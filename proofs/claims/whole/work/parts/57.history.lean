/-! THE CLASS'S HISTORY: rows to go back to, the log, the image -/
def nth (hs : List (Nat → Nat)) (j : Nat) : Nat → Nat := hs.getD j (fun _ => 0)
theorem nth_0 {T : Nat → Nat} {hs : List (Nat → Nat)} : nth (T :: hs) 0 = T := rfl
theorem nth_s {T : Nat → Nat} {hs : List (Nat → Nat)} {j : Nat} : nth (T :: hs) (j + 1) = nth hs j := rfl
theorem nth_take {hs : List (Nat → Nat)} {j k : Nat} (h : j < k) : nth (hs.take k) j = nth hs j := by
  unfold nth
  rw [List.getD_eq_getElem?_getD, List.getD_eq_getElem?_getD, List.getElem?_take, if_pos h]
/-- a state more to go back to -/
def push (T : Nat → Nat) (hs : List (Nat → Nat)) : List (Nat → Nat) := (T :: hs).take 40
theorem push_len {T : Nat → Nat} {hs : List (Nat → Nat)} : (push T hs).length = min 40 (hs.length + 1) := by
  unfold push
  rw [List.length_take, List.length_cons]
theorem push_0 {T : Nat → Nat} {hs : List (Nat → Nat)} : nth (push T hs) 0 = T := by
  unfold push
  rw [nth_take (by omega)]; rfl
theorem push_s {T : Nat → Nat} {hs : List (Nat → Nat)} {j : Nat} (h : j + 1 < 40) : nth (push T hs) (j + 1) = nth hs j := by
  unfold push
  rw [nth_take h]; rfl
/-- the rows as the class keeps them: so many, the next one's place -/
def CHr (I : Nat → Nat → Int32) (g : Nat) (hs : List (Nat → Nat)) (nx : Nat) : Prop :=
  hs.length ≤ 40 ∧ I g 0 = nI hs.length ∧ nx < 41 ∧ I g 2 = nI nx ∧ ∀ j, j < hs.length → KR (I (g + 2 + (nx + 40 - j) % 41)) (nth hs j)
/-- the days of the states: from one to the one ahead of it none or one -/
def chn : Nat → List (Nat → Nat) → Prop
  | _, [] => True
  | d, T :: hs => T 49 ≤ d ∧ d ≤ T 49 + 1 ∧ chn (T 49) hs
theorem chn_at : ∀ (hs : List (Nat → Nat)) (d j : Nat), chn d hs → j < hs.length → nth hs j 49 ≤ d ∧ d ≤ nth hs j 49 + (j + 1)
  | [], _, j, _, h => absurd h (by simp)
  | T :: hs, d, 0, h, _ => ⟨h.1, h.2.1⟩
  | T :: hs, d, j + 1, h, hj => by
    have h1 := chn_at hs (T 49) j h.2.2 (by simp at hj; omega)
    have h2 := h.1
    have h3 := h.2.1
    rw [nth_s]
    omega
theorem chn_take : ∀ (hs : List (Nat → Nat)) (d k : Nat), chn d hs → chn d (hs.take k)
  | [], d, k, _ => by rw [List.take_nil]; trivial
  | T :: hs, d, 0, _ => trivial
  | T :: hs, d, k + 1, h => ⟨h.1, h.2.1, chn_take hs (T 49) k h.2.2⟩
/-- what days there are: lo the first that the log may be asked for, M the highest there was -/
def CHd (T : Nat → Nat) (hs : List (Nat → Nat)) (lo M : Nat) : Prop :=
  chn (T 49) hs ∧ (∀ j, j < hs.length → M ≤ nth hs j 49 + 40 ∧ lo ≤ nth hs j 49 - 60) ∧ M ≤ T 49 + 40 ∧ T 49 ≤ M ∧ lo ≤ T 49 - 60
theorem CHd.push {T T' : Nat → Nat} {hs : List (Nat → Nat)} {lo M : Nat} (C : CHd T hs lo M) (h1 : T 49 ≤ T' 49) (h2 : T' 49 ≤ T 49 + 1) : CHd T' (push T hs) lo (max M (T' 49)) := by
  obtain ⟨c1, c2, c3, c4, c5⟩ := C
  refine ⟨chn_take (T :: hs) (T' 49) 40 ⟨h1, h2, c1⟩, fun j hj => ?_, by omega, by omega, by omega⟩
  rw [push_len] at hj
  cases j with
  | zero => rw [push_0]; omega
  | succ j =>
    rw [push_s (by omega)]
    have h3 := c2 j (by omega)
    have h4 := chn_at hs (T 49) j c1 (by omega)
    omega
theorem CHd.pop {T : Nat → Nat} {hs : List (Nat → Nat)} {lo M : Nat} {T0 : Nat → Nat} (C : CHd T (T0 :: hs) lo M) : CHd T0 hs lo M := by
  obtain ⟨c1, c2, c3, c4, c5⟩ := C
  have h0 := c2 0 (by simp)
  rw [nth_0] at h0
  refine ⟨c1.2.2, fun j hj => ?_, h0.1, ?_, h0.2⟩
  · have := c2 (j + 1) (by simp; omega)
    rw [nth_s] at this
    exact this
  · have := c1.1
    omega
/-- the log as the class keeps it -/
def CLg (I : Nat → Nat → Int32) (g day lo M : Nat) (LG : Nat → Nat → Nat) : Prop := ∀ e w, w < 3 → lo ≤ e → e < day → M ≤ e + 100 → I (g + 44 + w) (e % 100) = nI (LG e w)
section
variable {G : zG} {d : Nat} {I : Nat → Nat → Int32} {J : Nat → Nat → Int64} {R : Nat → Nat → Option Nat} {K : Nat → Nat × Nat} {n : Nat} {a s v g nf B nx : Nat} {Y T T0 : Nat → Nat} {hs : List (Nat → Nat)} {LG : Nat → Nat → Nat} {lo M : Nat} {Q : Option Value → zH → Prop}
theorem CHr.same {I' : Nat → Nat → Int32} (C : CHr I g hs nx) (h0 : I' g = I g) (h1 : ∀ j, j < 41 → j ≠ nx → I' (g + 2 + j) = I (g + 2 + j)) : CHr I' g hs nx := by
  obtain ⟨c1, c2, c3, c4, c5⟩ := C
  refine ⟨c1, by rw [h0]; exact c2, c3, by rw [h0]; exact c4, fun j hj => ?_⟩
  rw [h1 _ (Nat.mod_lt _ (by decide)) (by omega)]
  exact c5 j hj
theorem c_prepare (S : hHis G R K n g) (S1 : hSt G R K n a s v) (C : CHr I g hs nx) (CT : CS I a T) (hag : a + 7 ≤ g) (hQ : ∀ I', CHr I' g hs nx → KR (I' (g + 2 + nx)) T → (∀ q, q ≠ g + 2 + nx → I' q = I q) → Q none (I', J, R, K, n)) : zC G (d + 2) mX1_prepare 0 0 [.ref g, .ref a] (I, J, R, K, n) Q := by
  have hnx := C.2.2.1
  refine zC.of (by decide) (Nat.le_of_ble_eq_true rfl) ?_
  refine wX1_prepare_0 g a s v S S1 ?_
  rw [C.2.2.2.1, tk_c (by omega)]
  refine ⟨(tk_in (by omega) (by omega)).mpr hnx, ?_⟩
  refine c_keep S1 ((His_3 S) nx hnx).2 CT (by omega) ?_
  intro I' k' f'
  exact ⟨_, rfl, rfl, hQ I' (C.same (f' g (by omega)) (fun j _ hj => f' _ (by omega))) k' f'⟩
theorem c_close (S : hHis G R K n g) (C : CHr I g hs nx) (K0 : KR (I (g + 2 + nx)) T0) (hQ : ∀ I' nx', CHr I' g (push T0 hs) nx' → (∀ q, q ≠ g → I' q = I q) → (∀ k, k ≠ 0 → k ≠ 2 → I' g k = I g k) → Q none (I', J, R, K, n)) : zC G (d + 1) mX1_close 0 0 [.ref g] (I, J, R, K, n) Q := by
  obtain ⟨c1, c2, c3, c4, c5⟩ := C
  refine zC.of (by decide) (Nat.le_of_ble_eq_true rfl) ?_
  refine wX1_close_0 g S ?_
  refine ⟨by decide, ?_⟩
  intro I2 e2
  rw [c4, nI_1, tk_rem (by omega) (by omega) (by omega)] at e2
  intro I3 e3
  have e4 : I2 g 0 = nI hs.length := by rw [e2, zU_ne (by omega)]; exact c2
  rw [e4, nI_1] at e3
  simp (disch := omega) only [tk_0, tk_1, tk_2, tk_3, tk_4, tk_5, tk_6, tk_7, tk_8, tk_9, tk_10, tk_11, tk_12, tk_13, tk_14, tk_15, tk_16, tk_20, tk_24, tk_25, tk_26, tk_27, tk_28, tk_29, tk_30, tk_31, tk_32, tk_40, tk_41, tk_45, tk_46, tk_47, tk_48, tk_49, tk_50, tk_51, tk_57, tk_60, tk_99, tk_100, tk_120, tk_128, tk_231, tk_240, tk_255, tk_500, tk_999, tk_9999, tk_10000, pk_mul, nI_add, tk_c, tk_in, tk_lt, tk_le, tk_eq, tk_and31, tk_shl1, tk_shr1, tk_and1, tk_or, tk_ite, tk_tb, tk_mn, tk_mx] at e3
  have f3 : ∀ q, q ≠ g → I3 q = I q := fun q hq => by rw [e3, zU_off hq, e2, zU_off hq]
  refine hQ I3 ((nx + 1) % 41) ⟨?_, ?_, ?_, ?_, ?_⟩ f3 (fun k h0 h2 => by rw [e3, zU_ne (by omega), e2, zU_ne (by omega)])
  · rw [push_len]; omega
  · rw [e3, zU_self, push_len, Nat.min_comm]
  · omega
  · rw [e3, zU_ne (by omega), e2, zU_self]
  · intro j hj
    rw [push_len] at hj
    rw [f3 _ (by omega)]
    cases j with
    | zero =>
      rw [push_0, show ((nx + 1) % 41 + 40 - 0) % 41 = nx by omega]
      exact K0
    | succ j =>
      rw [push_s (by omega), show ((nx + 1) % 41 + 40 - (j + 1)) % 41 = (nx + 40 - j) % 41 by omega]
      exact c5 j (by omega)
theorem c_takeBack_n (S : hHis G R K n g) (S1 : hSt G R K n a s v) (C : CHr I g [] nx) (hQ : Q (some (.int 0)) (I, J, R, K, n)) : zC G (d + 2) mX1_takeBack 0 0 [.ref g, .ref a] (I, J, R, K, n) Q := by
  refine zC.of (by decide) (Nat.le_of_ble_eq_true rfl) ?_
  refine wX1_takeBack_0 g a s v S S1 ?_
  have e : I g 0 = 0 := C.2.1
  rw [e]
  exact ⟨fun _ => hQ, fun h => absurd rfl h⟩
theorem c_takeBack (S : hHis G R K n g) (S1 : hSt G R K n a s v) (C : CHr I g (T0 :: hs) nx) (hag : a + 7 ≤ g) (hQ : ∀ I' nx', CHr I' g hs nx' → CS I' a T0 → (∀ q, q ≠ g → ¬ aSt a q → I' q = I q) → (∀ k, k ≠ 0 → k ≠ 2 → I' g k = I g k) → Q (some (.int 1)) (I', J, R, K, n)) : zC G (d + 2) mX1_takeBack 0 0 [.ref g, .ref a] (I, J, R, K, n) Q := by
  obtain ⟨c1, c2, c3, c4, c5⟩ := C
  rw [List.length_cons] at c1 c2
  refine zC.of (by decide) (Nat.le_of_ble_eq_true rfl) ?_
  refine wX1_takeBack_0 g a s v S S1 ?_
  rw [c2]
  refine ⟨fun h => ?_, fun _ => ⟨by decide, ?_⟩⟩
  · rw [show (0 : Int32) = nI 0 from rfl, tk_eq (by omega) (by omega)] at h
    omega
  · intro I3 e3
    rw [c4, show (nI nx + 40 : Int32) = nI (nx + 40) from nI_add nx 40, tk_rem (by omega) (by omega) (by omega)] at e3
    intro I4 e4
    have e5 : I3 g 0 = nI (hs.length + 1) := by rw [e3, zU_ne (by omega)]; exact c2
    rw [e5, nI_pred] at e4
    have e6 : I4 g 2 = nI ((nx + 40) % 41) := by rw [e4, zU_ne (by omega), e3, zU_self]
    have f4 : ∀ q, q ≠ g → I4 q = I q := fun q hq => by rw [e4, zU_off hq, e3, zU_off hq]
    rw [e6, tk_c (by omega)]
    refine ⟨(tk_in (by omega) (by omega)).mpr (by omega), ?_⟩
    have k0 : KR (I4 (g + 2 + (nx + 40) % 41)) T0 := by
      rw [f4 _ (by omega)]
      have := c5 0 (by simp)
      rw [nth_0, Nat.sub_zero] at this
      exact this
    refine c_recall S1 ((His_3 S) _ (Nat.mod_lt _ (by decide))).2 k0 (by omega) ?_
    intro I6 k6 f6
    refine ⟨_, rfl, rfl, hQ I6 ((nx + 40) % 41) ⟨by omega, ?_, by omega, ?_, ?_⟩ k6 (fun q h1 h2 => by rw [f6 q h2, f4 q h1]) (fun k h0 h2 => ?_)⟩
    · rw [f6 g (fun h => by have := h.2; omega), e4, zU_self]
    · rw [f6 g (fun h => by have := h.2; omega), e6]
    · intro j hj
      rw [f6 _ (fun h => by have := h.2; omega), f4 _ (by omega), show ((nx + 40) % 41 + 40 - j) % 41 = (nx + 40 - (j + 1)) % 41 by omega]
      have := c5 (j + 1) (by simp; omega)
      rw [nth_s] at this
      exact this
    · rw [f6 g (fun h => by have := h.2; omega), e4, zU_ne (by omega), e3, zU_ne (by omega)]
theorem c_hclear (S : hHis G R K n g) (C : CHr I g hs nx) (hQ : ∀ I', CHr I' g [] nx → I' g 4 = 0 → (∀ q, q ≠ g → I' q = I q) → Q none (I', J, R, K, n)) : zC G (d + 1) mX1_clear 0 0 [.ref g] (I, J, R, K, n) Q := by
  obtain ⟨c1, c2, c3, c4, c5⟩ := C
  refine zC.of (by decide) (Nat.le_of_ble_eq_true rfl) ?_
  refine wX1_clear_0 g S ?_
  intro I1 e1 I2 e2
  refine hQ I2 ⟨by simp, ?_, c3, ?_, fun j hj => absurd hj (by simp)⟩ ?_ (fun q hq => by rw [e2, zU_off hq, e1, zU_off hq])
  · rw [e2, zU_ne (by omega), e1, zU_self]; rfl
  · rw [e2, zU_ne (by omega), e1, zU_ne (by omega)]; exact c4
  · rw [e2, zU_self]
theorem c_logLength (S : hSt G R K n a s v) (C : CS I a T) (h : T 49 < 1000000) (hQ : Q (some (.int (nI (min 60 (T 49))))) (I, J, R, K, n)) : zC G (d + 1) mX1_logLength 0 0 [.ref a] (I, J, R, K, n) Q := by
  refine zC.of (by decide) (Nat.le_of_ble_eq_true rfl) ?_
  refine wX1_logLength_0 a s v S ?_
  rw [C.2.2.2.2.2.2]
  simp (disch := omega) only [tk_0, tk_1, tk_2, tk_3, tk_4, tk_5, tk_6, tk_7, tk_8, tk_9, tk_10, tk_11, tk_12, tk_13, tk_14, tk_15, tk_16, tk_20, tk_24, tk_25, tk_26, tk_27, tk_28, tk_29, tk_30, tk_31, tk_32, tk_40, tk_41, tk_45, tk_46, tk_47, tk_48, tk_49, tk_50, tk_51, tk_57, tk_60, tk_99, tk_100, tk_120, tk_128, tk_231, tk_240, tk_255, tk_500, tk_999, tk_9999, tk_10000, pk_mul, nI_add, tk_c, tk_in, tk_lt, tk_le, tk_eq, tk_and31, tk_shl1, tk_shr1, tk_and1, tk_or, tk_ite, tk_tb, tk_mn, tk_mx]
  rw [Nat.min_comm]
  exact hQ
theorem c_logged (S : hHis G R K n g) {e w : Nat} (hw : w < 3) (he : e < 1000000) (hQ : Q (some (.int (I (g + 44 + w) (e % 100)))) (I, J, R, K, n)) : zC G (d + 1) mX1_logged 0 0 [.ref g, .int (nI e), .int (nI w)] (I, J, R, K, n) Q := by
  refine zC.of (by decide) (Nat.le_of_ble_eq_true rfl) ?_
  refine wX1_logged_0 g S _ _ ?_
  rw [if_neg (nI_pos (by omega)), show (100 : Int32) = nI 100 from rfl, tk_rem (by omega) (by omega) (by omega), tk_c (by omega), tk_c (by omega)]
  exact ⟨(tk_in (by omega) (by omega)).mpr hw, (tk_in (by omega) (by omega)).mpr (Nat.mod_lt _ (by decide)), hQ⟩
/-- a day is logged: the row T is that behind it -/
theorem c_write (S : hHis G R K n g) (S1 : hSt G R K n a s v) (hag : a + 8 ≤ g) (hvg : v + 3 ≤ g ∨ g + 52 ≤ v) (V : VL I v nf Y) (W : okV nf Y) (C : CS I a T) (O : okT B nf Y T) (h1 : 1 ≤ T 49) {cm : Nat} (h11 : I a 11 = nI cm) (hQ : ∀ I', (∀ x, I' (g + 44) x = if x = (T 49 - 1) % 100 then nI (whitesA nf Y T) else I (g + 44) x) → (∀ x, I' (g + 45) x = if x = (T 49 - 1) % 100 then nI cm else I (g + 45) x) → (∀ x, I' (g + 46) x = if x = (T 49 - 1) % 100 then nI (T 47) else I (g + 46) x) → (∀ q, q ≠ g + 44 → q ≠ g + 45 → q ≠ g + 46 → I' q = I q) → Q none (I', J, R, K, n)) : zC G (d + 4) mX1_write 0 0 [.ref g, .ref a] (I, J, R, K, n) Q := by
  have o := O.2.2.2.2
  have e10 : I a 10 = nI (T 49) := C.2.2.2.2.2.2
  refine zC.of (by decide) (Nat.le_of_ble_eq_true rfl) ?_
  refine wX1_write_0 g a s v S S1 ?_
  have es : (if (nI (T 49) - 1 : Int32) < 0 then (0 : Int32) else nI (T 49) - 1) - (if (nI (T 49) - 1 : Int32) < 0 then (0 : Int32) else nI (T 49) - 1) / 100 * 100 = nI ((T 49 - 1) % 100) := by
    rw [show nI (T 49) - 1 = nI (T 49 - 1) from tk_sub (b := 1) h1, if_neg (nI_pos (by omega)), show (100 : Int32) = nI 100 from rfl, tk_rem (by omega) (by omega) (by omega)]
  rw [e10, es, tk_c (by omega), show (0 : Int32).toNatClampNeg = 0 from rfl, show (1 : Int32).toNatClampNeg = 1 from rfl, show (2 : Int32).toNatClampNeg = 2 from rfl]
  have hin : vp_in (nI ((T 49 - 1) % 100)) 100 := (tk_in (by omega) (by omega)).mpr (Nat.mod_lt _ (by decide))
  refine ⟨(tk_in (n := 0) (by omega) (by omega)).mpr (by omega), ?_⟩
  refine c_whites S1 V W C O ?_
  refine ⟨_, _, rfl, rfl, ?_⟩
  refine ⟨hin, ?_⟩
  intro I4 e4
  refine ⟨(tk_in (n := 1) (by omega) (by omega)).mpr (by omega), hin, ?_⟩
  intro I6 e6
  refine ⟨(tk_in (n := 2) (by omega) (by omega)).mpr (by omega), hin, ?_⟩
  intro I8 e8
  have f4 : ∀ q, q ≠ g + 44 → I4 q = I q := fun q hq => by rw [e4, zU_off hq]
  have f6 : ∀ q, q ≠ g + 44 → q ≠ g + 45 → I6 q = I q := fun q h1 h2 => by rw [e6, zU_off h2]; exact f4 q h1
  rw [f4 a (by omega), h11] at e6
  rw [f6 a (by omega) (by omega), C.2.2.2.2.1] at e8
  refine hQ I8 (fun x => ?_) (fun x => ?_) (fun x => ?_) (fun q h1 h2 h3 => by rw [e8, zU_off h3]; exact f6 q h1 h2)
  · rw [e8, zU_off (by omega), e6, zU_off (by omega), e4, zU_a]
  · rw [e8, zU_off (by omega), e6, show g + 44 + 1 = g + 45 from rfl, zU_a, f4 _ (by omega)]
  · rw [e8, show g + 44 + 2 = g + 46 from rfl, zU_a, f6 _ (by omega) (by omega)]
end
