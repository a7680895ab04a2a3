/-! THE FACE: text: the model, another village -/
section
variable {G : zG} {d : Nat} {I : Nat → Nat → Int32} {J : Nat → Nat → Int64} {R : Nat → Nat → Option Nat} {K : Nat → Nat × Nat} {n : Nat} {m t c : Nat} {tl : Nat → Nat} {tt : Nat → Nat → Nat} {vl vl' : Vt} {st : Stt} {tp : Tpt} {lw : Lwt} {sp : Spt} {ap : Nat} {sg : Sgt} {B : Nat} {p : Int32} {Q : Option Value → zH → Prop}
theorem y_text0_y (C : MIv G I J R K n m t c tl tt vl st tp lw sp ap sg B) (hv : (villP tp.2 tp.1).2 = some vl') : YL G (d + 10) mX12_text [.ref m, .int (nI 0)] I J R K n m tl tt (nI vl'.1) vl' (stV vl' st) (0, tp.2) lw sp ap (0, sg.2) B := by
  intro Q hQ
  obtain ⟨M1, f1⟩ := C.z0 (y := 0)
  obtain ⟨W, pos⟩ := villP_ok.2 _ hv
  have h6 := W.1.1
  have h9 := W.2.1
  have hB : B < 100000 := C.oks_.1.2.2.2.2.2.2.2.2.2
  refine zC.of (by decide) (Nat.le_of_ble_eq_true rfl) ?_
  refine wX12_text_0 m t c C.S_ _ ?_
  rintro _ rfl
  refine c_in_y (N := 3) (by decide) (by decide) (by omega) ?_
  refine ⟨_, _, rfl, rfl, ?_⟩
  refine ⟨fun h => absurd h (by decide), fun _ => ⟨fun h => absurd h (by decide), fun _ => ⟨fun h => absurd h (by decide), fun _ => ?_⟩⟩⟩
  refine c_mfault0 M1 (fun I' R' vl2 rl h F S' hR D => ?_) (fun I' R' h => ?_)
  case refine_2 => rw [hv] at h; injection h
  obtain rfl : vl' = vl2 := by rw [hv] at h; injection h
  obtain ⟨d1, d2, d3, d4, d5, d6, d7⟩ := D
  have M2 := M1.red S' F
  refine ⟨_, _, _, _, rfl, rfl, _, _, S', fun _ => ?_, fun h => absurd rfl h⟩
  intro I3 q3
  have M3 := M2.tp0
  rw [← q3] at M3
  refine ⟨fun h => absurd h (by decide), fun _ => ⟨fun h => absurd h (by decide), fun _ => ?_⟩⟩
  intro I4 q4 I5 q5
  obtain ⟨l2, hl2⟩ : ∃ l2, l2 = I' m 6 := ⟨_, rfl⟩
  rw [← hl2]
  have e28 : I3 m 28 = nI vl'.1 := by rw [q3, zU_ne (by omega)]; exact d1
  have e29 : I4 m 29 = nI vl'.2.2.1 := by rw [q4, zU_ne (by omega), q3, zU_ne (by omega)]; exact d2
  rw [e28] at q4
  rw [e29] at q5
  have e26 : I5 m 26 = nI vl'.1 := by rw [q5, zU_ne (by omega), q4, zU_self]
  have e27 : I5 m 27 = nI vl'.2.2.1 := by rw [q5, zU_self]
  have fb5 : ∀ b, b ≠ m → I5 b = I' b := fun b hb => by rw [q5, zU_off hb, q4, zU_off hb, q3, zU_off hb]
  have fm5 : ∀ k, k ≠ 6 → k ≠ 26 → k ≠ 27 → I5 m k = I3 m k := fun k k1 k2 k3 => by rw [q5, zU_ne (by omega), q4, zU_ne (by omega)]
  -- the last loop
  have l5 : ∀ (j i : Nat) (A : Nat → Nat → Int32), i + j = 3 * vl'.2.2.1 → (∀ k, A m k = I5 m k) → (∀ b, b ≠ m → b ≠ m + 5 → b ≠ m + 7 → b ≠ m + 9 → b ≠ m + 13 → A b = I' b) → (∀ k, k < 2 → A (m + 5) k = I' (m + 6) k) → (∀ k, k < 12 → A (m + 7) k = I' (m + 8) k) → (∀ k, k < 27 → A (m + 9) k = I' (m + 10) k) → (∀ k, k < 231 → A (m + 13) k = (if k < i then I' (m + 10) k else 0)) → zV G (d + 10) mX12_text 0 0 322 [(0, .ref m), (1, .int (nI 0)), (2, .int l2), (3, .int (nI i))] [] (A, J, R', K, n) Q := by
    intro j
    induction j with
    | zero =>
      intro i A hi a1 a2 a3 a4 a5 a6
      obtain rfl : i = 3 * vl'.2.2.1 := by omega
      refine wX12_text_322 m (m + 1) 240 S' _ _ _ ?_
      rw [a1 27, e27, show (3 * nI vl'.2.2.1 : Int32) = nI (3 * vl'.2.2.1) by rw [show (3 : Int32) = nI 3 from rfl, pk_mul], tk_le (by omega) (by omega), show (0 : Int32).toNatClampNeg = 0 from rfl, show (1 : Int32).toNatClampNeg = 1 from rfl, show (47 : Int32).toNatClampNeg = 47 from rfl, show (48 : Int32).toNatClampNeg = 48 from rfl]
      refine ⟨fun _ => ⟨(tk_in (n := 0) (by omega) (by omega)).mpr (by omega), (tk_in (n := 47) (by omega) (by omega)).mpr (by omega), fun A1 r1 => ⟨(tk_in (n := 1) (by omega) (by omega)).mpr (by omega), (tk_in (n := 48) (by omega) (by omega)).mpr (by omega), fun A2 r2 A3 r3 A4 r4 A5 r5 => ?_⟩⟩, fun h => absurd (Nat.le_refl _) h⟩
      rw [a3 0 (by omega), d6] at r1
      rw [show A1 (m + 5) 1 = nI vl'.2.2.2.2.2 by rw [r1, zU_off (by omega), a3 1 (by omega)]; exact d7] at r2
      have fm : ∀ k, k ≠ 44 → k ≠ 39 → k ≠ 47 → A5 m k = I5 m k := fun k k1 k2 k3 => by rw [r5, zU_ne (by omega), r4, zU_ne (by omega), r3, zU_ne (by omega), r2, zU_off (by omega), r1, zU_off (by omega), a1 k]
      have fm' : ∀ k, k ≠ 44 → k ≠ 39 → k ≠ 47 → k ≠ 6 → k ≠ 26 → k ≠ 27 → A5 m k = I3 m k := fun k k1 k2 k3 k4 k5 k6 => by rw [fm k k1 k2 k3, fm5 k k4 k5 k6]
      have fb : ∀ b, b ≠ m → b ≠ m + 13 → A5 b = A b := fun b b1 b2 => by rw [r5, zU_off b1, r4, zU_off b1, r3, zU_off b1, r2, zU_off b2, r1, zU_off b2]
      have fb' : ∀ b, b ≠ m → b ≠ m + 5 → b ≠ m + 7 → b ≠ m + 9 → b ≠ m + 13 → A5 b = I3 b := fun b b1 b2 b3 b4 b5 => by rw [fb b b1 b5, a2 b b1 b2 b3 b4 b5, q3, zU_off b1]
      have e5 : A5 m 26 = nI vl'.1 := by rw [fm 26 (by omega) (by omega) (by omega)]; exact e26
      have row : ∀ k, k < 231 → A5 (m + 13) k = (if k = 48 then nI vl'.2.2.2.2.2 else if k = 47 then nI vl'.2.2.2.2.1 else if k < 3 * vl'.2.2.1 then I' (m + 10) k else 0) := by
        intro k hk
        rw [r5, zU_off (by omega), r4, zU_off (by omega), r3, zU_off (by omega), r2]
        by_cases k48 : k = 48
        · rw [k48, zU_self, if_pos rfl]
        rw [zU_ne (by omega), if_neg k48, r1]
        by_cases k47 : k = 47
        · rw [k47, zU_self, if_pos rfl]
        rw [zU_ne (by omega), if_neg k47]
        exact a6 k hk
      have b49 : beginT vl' 49 = 0 := by
        unfold beginT
        rw [if_neg (by omega), if_neg (by omega), if_neg (by omega)]
      rw [e5]
      refine hQ A5 J R' (m + 1) 240 ⟨S', ?_, W, ?_, ⟨okT.begin_ W hB, fun j hj => absurd hj (Nat.not_lt_zero j), fun y hy => by injection hy, ?_, fun j hj => absurd hj (Nat.not_lt_zero j), fun y hy => by injection hy⟩, ?_, ?_, ?_, ?_, ?_, ?_⟩ (fun b hb => ⟨?_, rfl⟩) hR
      · refine ⟨⟨e5, fun f hf => ?_⟩, by rw [fm 27 (by omega) (by omega) (by omega)]; exact e27, fun k hk => ?_, ?_, ?_⟩
        · rw [fb (m + 7) (by omega) (by omega), a4 _ (by omega), a4 _ (by omega)]
          exact d4 f hf
        · rw [fb (m + 9) (by omega) (by omega), a5 _ (by omega)]
          exact d5 k hk
        · rw [fb (m + 5) (by omega) (by omega), a3 0 (by omega)]; exact d6
        · rw [fb (m + 5) (by omega) (by omega), a3 1 (by omega)]; exact d7
      · refine ⟨⟨fun k hk => ?_, ?_, fun i' w hi' => ?_⟩, ?_, Nat.zero_le _, fun j hj => absurd hj (Nat.not_lt_zero j), Or.inl ⟨rfl, ?_⟩⟩
        · show A5 (m + 13) k = nI (beginT vl' k)
          rw [row k (by omega)]
          unfold beginT
          by_cases k48 : k = 48
          · rw [if_pos k48, if_neg (by omega), if_neg (by omega), if_pos k48]
          rw [if_neg k48]
          by_cases k47 : k = 47
          · rw [if_pos k47, if_neg (by omega), if_pos k47]
          rw [if_neg k47]
          by_cases kw : k < 3 * vl'.2.2.1
          · rw [if_pos kw, if_pos kw]; exact d5 k kw
          · rw [if_neg kw, if_neg kw, if_neg k47, if_neg k48]; rfl
        · show A5 (m + 13) 50 = nI (min 60 (beginT vl' 49))
          rw [row 50 (by omega), if_neg (by omega), if_neg (by omega), if_neg (by omega), b49]
          rfl
        · replace hi' : i' < min 60 (beginT vl' 49) := hi'
          rw [b49] at hi'
          exact absurd hi' (by omega)
        · rw [r5, zU_ne (by omega), r4, zU_self]; rfl
        · rw [r5, zU_self]
      · show beginT vl' 49 ≤ 999
        omega
      · exact ⟨Nat.zero_le _, by rw [fm 6 (by omega) (by omega) (by omega), q5, zU_ne (by omega), q4, zU_ne (by omega), q3, zU_self]; rfl, fun j hj => absurd hj (Nat.not_lt_zero j)⟩
      · unfold LMo
        rw [fm' 7 (by omega) (by omega) (by omega) (by omega) (by omega) (by omega), fb' (m + 3) (by omega) (by omega) (by omega) (by omega) (by omega), fb' (m + 2) (by omega) (by omega) (by omega) (by omega) (by omega), fb' (m + 4) (by omega) (by omega) (by omega) (by omega) (by omega), fb' (m + 16) (by omega) (by omega) (by omega) (by omega) (by omega)]
        exact M3.lm_
      · unfold mHl
        rw [fm' 34 (by omega) (by omega) (by omega) (by omega) (by omega) (by omega)]
        exact M3.hl_
      · unfold mP
        rw [fm' 30 (by omega) (by omega) (by omega) (by omega) (by omega) (by omega), fb' (m + 12) (by omega) (by omega) (by omega) (by omega) (by omega), fb' (m + 11) (by omega) (by omega) (by omega) (by omega) (by omega)]
        exact M3.p_
      · exact ⟨Nat.zero_le _, by rw [r5, zU_ne (by omega), r4, zU_ne (by omega), r3, zU_self]; rfl, fun k hk => absurd hk (by show ¬ k < 3 * 0; omega), fun i hi => absurd hi (Nat.not_lt_zero i)⟩
      · rw [fm' 35 (by omega) (by omega) (by omega) (by omega) (by omega) (by omega)]
        exact M3.ap_
      · rw [fb' b (by omega) (by omega) (by omega) (by omega) (by omega), q3, zU_off (by omega), F.out b hb]
        exact f1 b hb
    | succ j ih =>
      intro i A hi a1 a2 a3 a4 a5 a6
      refine wX12_text_322 m (m + 1) 240 S' _ _ _ ?_
      rw [a1 27, e27, show (3 * nI vl'.2.2.1 : Int32) = nI (3 * vl'.2.2.1) by rw [show (3 : Int32) = nI 3 from rfl, pk_mul], tk_le (by omega) (by omega)]
      refine ⟨fun h => absurd h (by omega), fun _ => ⟨(tk_in (by omega) (by omega)).mpr (by omega), (tk_in (by omega) (by omega)).mpr (by omega), fun A1 r1 => ?_⟩⟩
      rw [tk_c (by omega), a5 i (by omega)] at r1
      rw [nI_1]
      refine ih (i + 1) A1 (by omega) (fun k => by rw [r1, zU_off (by omega)]; exact a1 k) (fun b b1 b2 b3 b4 b5 => by rw [r1, zU_off b5]; exact a2 b b1 b2 b3 b4 b5) (fun k hk => by rw [r1, zU_off (by omega)]; exact a3 k hk) (fun k hk => by rw [r1, zU_off (by omega)]; exact a4 k hk) (fun k hk => by rw [r1, zU_off (by omega)]; exact a5 k hk) (fun k hk => ?_)
      rw [r1]
      by_cases e : k = i
      · rw [e, zU_self, if_pos (by omega)]
      · rw [zU_ne (by omega), a6 k hk]
        by_cases h : k < i
        · rw [if_pos h, if_pos (by omega)]
        · rw [if_neg h, if_neg (by omega)]
  have l4 : ∀ (j i : Nat) (A : Nat → Nat → Int32), i + j = 231 → (∀ k, A m k = I5 m k) → (∀ b, b ≠ m → b ≠ m + 5 → b ≠ m + 7 → b ≠ m + 9 → b ≠ m + 13 → A b = I' b) → (∀ k, k < 2 → A (m + 5) k = I' (m + 6) k) → (∀ k, k < 12 → A (m + 7) k = I' (m + 8) k) → (∀ k, k < 27 → A (m + 9) k = I' (m + 10) k) → (∀ k, k < i → A (m + 13) k = 0) → zV G (d + 10) mX12_text 0 0 300 [(0, .ref m), (1, .int (nI 0)), (2, .int l2), (3, .int (nI i))] [] (A, J, R', K, n) Q := by
    intro j
    induction j with
    | zero =>
      intro i A hi a1 a2 a3 a4 a5 a6
      obtain rfl : i = 231 := by omega
      refine wX12_text_300 m (m + 1) 240 S' _ _ _ ⟨fun _ => ?_, fun h => absurd (by decide) h⟩
      exact l5 (3 * vl'.2.2.1) 0 A (by omega) a1 a2 a3 a4 a5 (fun k hk => by rw [if_neg (by omega)]; exact a6 k hk)
    | succ j ih =>
      intro i A hi a1 a2 a3 a4 a5 a6
      refine wX12_text_300 m (m + 1) 240 S' _ _ _ ⟨fun h => ?_, fun _ => ⟨(tk_in (by omega) (by omega)).mpr (by omega), fun A1 r1 => ?_⟩⟩
      · rw [show (231 : Int32) = nI 231 from rfl, tk_le (by omega) (by omega)] at h
        omega
      rw [tk_c (by omega)] at r1
      rw [nI_1]
      refine ih (i + 1) A1 (by omega) (fun k => by rw [r1, zU_off (by omega)]; exact a1 k) (fun b b1 b2 b3 b4 b5 => by rw [r1, zU_off b5]; exact a2 b b1 b2 b3 b4 b5) (fun k hk => by rw [r1, zU_off (by omega)]; exact a3 k hk) (fun k hk => by rw [r1, zU_off (by omega)]; exact a4 k hk) (fun k hk => by rw [r1, zU_off (by omega)]; exact a5 k hk) (fun k hk => ?_)
      rw [r1]
      by_cases e : k = i
      · rw [e, zU_self]
      · rw [zU_ne (by omega)]; exact a6 k (by omega)
  have l3 : ∀ (j i : Nat) (A : Nat → Nat → Int32), i + j = 27 → (∀ k, A m k = I5 m k) → (∀ b, b ≠ m → b ≠ m + 5 → b ≠ m + 7 → b ≠ m + 9 → A b = I' b) → (∀ k, k < 2 → A (m + 5) k = I' (m + 6) k) → (∀ k, k < 12 → A (m + 7) k = I' (m + 8) k) → (∀ k, k < i → A (m + 9) k = I' (m + 10) k) → zV G (d + 10) mX12_text 0 0 274 [(0, .ref m), (1, .int (nI 0)), (2, .int l2), (3, .int (nI i))] [] (A, J, R', K, n) Q := by
    intro j
    induction j with
    | zero =>
      intro i A hi a1 a2 a3 a4 a5
      obtain rfl : i = 27 := by omega
      refine wX12_text_274 m (m + 1) 240 S' _ _ _ ⟨fun _ => ?_, fun h => absurd (by decide) h⟩
      exact l4 231 0 A (by omega) a1 (fun b b1 b2 b3 b4 _ => a2 b b1 b2 b3 b4) a3 a4 a5 (fun k hk => absurd hk (by omega))
    | succ j ih =>
      intro i A hi a1 a2 a3 a4 a5
      refine wX12_text_274 m (m + 1) 240 S' _ _ _ ⟨fun h => ?_, fun _ => ⟨(tk_in (by omega) (by omega)).mpr (by omega), (tk_in (by omega) (by omega)).mpr (by omega), fun A1 r1 => ?_⟩⟩
      · rw [show (27 : Int32) = nI 27 from rfl, tk_le (by omega) (by omega)] at h
        omega
      rw [tk_c (by omega), a2 (m + 10) (by omega) (by omega) (by omega) (by omega)] at r1
      rw [nI_1]
      refine ih (i + 1) A1 (by omega) (fun k => by rw [r1, zU_off (by omega)]; exact a1 k) (fun b b1 b2 b3 b4 => by rw [r1, zU_off b4]; exact a2 b b1 b2 b3 b4) (fun k hk => by rw [r1, zU_off (by omega)]; exact a3 k hk) (fun k hk => by rw [r1, zU_off (by omega)]; exact a4 k hk) (fun k hk => ?_)
      rw [r1]
      by_cases e : k = i
      · rw [e, zU_self]
      · rw [zU_ne (by omega)]; exact a5 k (by omega)
  have lf : ∀ (j i : Nat) (A : Nat → Nat → Int32), i + j = 12 → (∀ k, A m k = I5 m k) → (∀ b, b ≠ m → b ≠ m + 5 → b ≠ m + 7 → A b = I' b) → (∀ k, k < 2 → A (m + 5) k = I' (m + 6) k) → (∀ k, k < i → A (m + 7) k = I' (m + 8) k) → zV G (d + 10) mX12_text 0 0 248 [(0, .ref m), (1, .int (nI 0)), (2, .int l2), (3, .int (nI i))] [] (A, J, R', K, n) Q := by
    intro j
    induction j with
    | zero =>
      intro i A hi a1 a2 a3 a4
      obtain rfl : i = 12 := by omega
      refine wX12_text_248 m (m + 1) 240 S' _ _ _ ⟨fun _ => ?_, fun h => absurd (by decide) h⟩
      exact l3 27 0 A (by omega) a1 (fun b b1 b2 b3 _ => a2 b b1 b2 b3) a3 a4 (fun k hk => absurd hk (by omega))
    | succ j ih =>
      intro i A hi a1 a2 a3 a4
      refine wX12_text_248 m (m + 1) 240 S' _ _ _ ⟨fun h => ?_, fun _ => ⟨(tk_in (by omega) (by omega)).mpr (by omega), (tk_in (by omega) (by omega)).mpr (by omega), fun A1 r1 => ?_⟩⟩
      · rw [show (12 : Int32) = nI 12 from rfl, tk_le (by omega) (by omega)] at h
        omega
      rw [tk_c (by omega), a2 (m + 8) (by omega) (by omega) (by omega)] at r1
      rw [nI_1]
      refine ih (i + 1) A1 (by omega) (fun k => by rw [r1, zU_off (by omega)]; exact a1 k) (fun b b1 b2 b3 => by rw [r1, zU_off b3]; exact a2 b b1 b2 b3) (fun k hk => by rw [r1, zU_off (by omega)]; exact a3 k hk) (fun k hk => ?_)
      rw [r1]
      by_cases e : k = i
      · rw [e, zU_self]
      · rw [zU_ne (by omega)]; exact a4 k (by omega)
  have lr : ∀ (j i : Nat) (A : Nat → Nat → Int32), i + j = 2 → (∀ k, A m k = I5 m k) → (∀ b, b ≠ m → b ≠ m + 5 → A b = I' b) → (∀ k, k < i → A (m + 5) k = I' (m + 6) k) → zV G (d + 10) mX12_text 0 0 223 [(0, .ref m), (1, .int (nI 0)), (2, .int l2), (3, .int (nI i))] [] (A, J, R', K, n) Q := by
    intro j
    induction j with
    | zero =>
      intro i A hi a1 a2 a3
      obtain rfl : i = 2 := by omega
      refine wX12_text_223 m (m + 1) 240 S' _ _ _ ⟨fun _ => ?_, fun h => absurd (by decide) h⟩
      exact lf 12 0 A (by omega) a1 (fun b b1 b2 _ => a2 b b1 b2) a3 (fun k hk => absurd hk (by omega))
    | succ j ih =>
      intro i A hi a1 a2 a3
      refine wX12_text_223 m (m + 1) 240 S' _ _ _ ⟨fun h => ?_, fun _ => ⟨(tk_in (by omega) (by omega)).mpr (by omega), (tk_in (by omega) (by omega)).mpr (by omega), fun A1 r1 => ?_⟩⟩
      · rw [show (2 : Int32) = nI 2 from rfl, tk_le (by omega) (by omega)] at h
        omega
      rw [tk_c (by omega), a2 (m + 6) (by omega) (by omega)] at r1
      rw [nI_1]
      refine ih (i + 1) A1 (by omega) (fun k => by rw [r1, zU_off (by omega)]; exact a1 k) (fun b b1 b2 => by rw [r1, zU_off b2]; exact a2 b b1 b2) (fun k hk => ?_)
      rw [r1]
      by_cases e : k = i
      · rw [e, zU_self]
      · rw [zU_ne (by omega)]; exact a3 k (by omega)
  exact lr 2 0 I5 (by omega) (fun _ => rfl) (fun b b1 _ => fb5 b b1) (fun k hk => absurd hk (by omega))
end
