/-! THE MODEL'S ROWS: yards, forgiving -/
theorem yl_end {x : Int32} {b l : Nat} (hb : b < 1000000) (hl : l < 1000000) : (if clampI x < (if nI l < nI b then nI l else nI b) then clampI x else (if nI l < nI b then nI l else nI b)) = nI (min (clampN x) (min b l)) := by
  have h := clampN_eq x
  rw [h.1]
  simp (disch := omega) only [tk_0, tk_1, tk_2, tk_3, tk_4, tk_5, tk_6, tk_7, tk_8, tk_9, tk_10, tk_11, tk_12, tk_13, tk_14, tk_15, tk_16, tk_20, tk_24, tk_25, tk_26, tk_27, tk_28, tk_29, tk_30, tk_31, tk_32, tk_40, tk_41, tk_45, tk_46, tk_47, tk_48, tk_49, tk_50, tk_51, tk_57, tk_60, tk_99, tk_100, tk_120, tk_128, tk_231, tk_240, tk_255, tk_500, tk_999, tk_9999, tk_10000, pk_mul, nI_add, tk_c, tk_in, tk_lt, tk_le, tk_eq, tk_and31, tk_shl1, tk_shr1, tk_and1, tk_or, tk_ite, tk_tb, tk_mn, tk_mx]
  rw [Nat.min_comm]
theorem clampN_n {x : Nat} (h : x < 1000000) : clampN (nI x) = min 40 x := by
  unfold clampN clampI
  rw [show (40 : Int32) = nI 40 from rfl]
  have e0 : (0 : Int32) = nI 0 := rfl
  by_cases h1 : 40 < x
  · rw [if_pos ((tk_lt (by omega) (by omega)).mpr h1), if_neg (by decide), tk_c (by omega)]
    omega
  · rw [if_neg (fun h2 => h1 ((tk_lt (by omega) (by omega)).mp h2)), if_neg (nI_pos (by omega)), tk_c (by omega)]
    omega
section
variable {G : zG} {d : Nat} {I : Nat → Nat → Int32} {J : Nat → Nat → Int64} {R : Nat → Nat → Option Nat} {K : Nat → Nat × Nat} {n : Nat} {m t c b nf B nl : Nat} {Y T : Nat → Nat} {tl : Nat → Nat} {tt : Nat → Nat → Nat} {cd : Nat → List Int32} {Wc : Nat → Nat → Nat → Nat → Nat → Nat → Nat} {Q : Option Value → zH → Prop}
theorem VM.fm {A : Nat → Prop} {I' : Nat → Nat → Int32} {J' : Nat → Nat → Int64} {R' : Nat → Nat → Option Nat} (V : VM I m nf Y) (F : FMo A m I I' J J' R R') (hA : ¬ A (m + 7)) : VM I' m nf Y := by
  unfold VM
  rw [F.2.1 26 (by omega), F.1 (m + 7) hA (by omega) (by omega) (by omega)]
  exact V
theorem MR.fm {A : Nat → Prop} {I' : Nat → Nat → Int32} {J' : Nat → Nat → Int64} {R' : Nat → Nat → Option Nat} (V : MR I b T) (F : FMo A m I I' J J' R R') (hA : ¬ A b) (h1 : b ≠ m) (h2 : b ≠ m + 4) (h3 : b ≠ m + 16) : MR I' b T := by
  unfold MR
  rw [F.1 b hA h1 h2 h3]
  exact V
theorem HLD.fm {A : Nat → Prop} {I' : Nat → Nat → Int32} {J' : Nat → Nat → Int64} {R' : Nat → Nat → Option Nat} (V : HLD I m nl cd Wc) (F : FMo A m I I' J J' R R') : HLD I' m nl cd Wc := V.same (F.2.1 34 (by omega))
theorem c_yardsBy {h w mn bb l dd : Nat} (S : hMod G R K n m t c) (L : LMo I J m nl tl tt cd) (H : HLD I m nl cd Wc) (V : VM I m nf Y) (W : okV nf Y) (hw : w < nf) (h1 : 1 ≤ h) (r : rng h (Y (2 * w + 1)) mn bb l dd) (hQ : ∀ I' J' R' t' c', hMod G R' K n m t' c' → LMo I' J' m nl tl tt cd → FMo aNo m I I' J J' R R' → Q (some (.int (nI (min (Wc h (Y (2 * w + 1)) mn bb l dd) (min bb l))))) (I', J', R', K, n)) : zC G (d + 34) mX12_yardsBy 0 0 [.ref m, .int (nI h), .int (nI w), .int (nI mn), .int (nI bb), .int (nI l), .int (nI dd)] (I, J, R, K, n) Q := by
  have h6 := W.1
  obtain ⟨r1, r2, r3, r4, r5, r6⟩ := r
  have e7 : I (m + 7) (2 * nI w + 1 : Int32).toNatClampNeg = nI (Y (2 * w + 1)) := by
    rw [show (2 : Int32) = nI 2 from rfl, pk_mul, nI_1, tk_c (by omega)]
    exact (V.2 w hw).2
  refine zC.of (by decide) (Nat.le_of_ble_eq_true rfl) ?_
  refine wX12_yardsBy_0 m t c S _ _ _ _ _ _ ?_
  rw [e7]
  refine ⟨by rw [show (2 : Int32) = nI 2 from rfl, pk_mul, nI_1]; exact (tk_in (by omega) (by omega)).mpr (by omega), ?_⟩
  rcases H with ⟨h34, hW⟩ | ⟨k, hk, h34, hW⟩
  · rw [h34]
    refine ⟨fun _ => ?_, fun h => absurd rfl h⟩
    refine qI ?_ (hQ I J R t c S L FMo.rf)
    rw [show (2 : Int32) * nI h + 1 - nI (Y (2 * w + 1)) / 3 = nI (2 * h + 1 - Y (2 * w + 1) / 3) by
      rw [show (2 : Int32) = nI 2 from rfl, pk_mul, nI_1, show (3 : Int32) = nI 3 from rfl, tk_div (by omega) (by omega) (by omega), tk_sub (by omega)], clampI_eq, yl_end (by omega) (by omega), clampN_n (by omega), hW]
    rfl
  · rw [h34]
    have hnl := L.1
    refine ⟨fun h => absurd ((tk_m1 (by omega)).mp h) id, fun _ => ?_⟩
    refine c_worthOf S L hk h34 ⟨r1, r2, r3, r4, r5, r6⟩ ?_
    intro I' J' R' t' c' S' L' F'
    refine ⟨_, _, _, _, rfl, rfl, _, _, S', ?_⟩
    refine qI ?_ (hQ I' J' R' t' c' S' L' F')
    rw [clampI_eq, yl_end (by omega) (by omega), hW]
theorem c_myards (S : hMod G R K n m t c) (hb : sA G K n b 32 231) (L : LMo I J m nl tl tt cd) (H : HLD I m nl cd Wc) (V : VM I m nf Y) (W : okV nf Y) (C : MR I b T) (O : okT B nf Y T) {p : Nat} (hp : p < 9) (ho : 0 < T (3 * p + 2)) (hQ : ∀ I' J' R' t' c', hMod G R' K n m t' c' → LMo I' J' m nl tl tt cd → FMo aNo m I I' J J' R R' → Q (some (.int (nI (yardsA Wc Y T p)))) (I', J', R', K, n)) : zC G (d + 35) mX12_yardsOf 0 0 [.ref m, .ref b, .int (nI p)] (I, J, R, K, n) Q := by
  have h6 := W.1
  have o1 := (O.1 p hp).1
  obtain ⟨o2, o3, -⟩ := (O.1 p hp).2 ho
  have o5 := O.2.2.2.1 (T (3 * p)) (by omega)
  obtain ⟨-, -, o7, -, o9, oB⟩ := O.2.2.2.2
  have b4 := bareA_le (T := T) W o3
  have w4 := (W.2 _ o3).2.2
  refine zC.of (by decide) (Nat.le_of_ble_eq_true rfl) ?_
  refine wX12_yardsOf_0 m t c b hb S _ ?_
  have a0 : (3 * nI p : Int32) = nI (3 * p) := by rw [show (3 : Int32) = nI 3 from rfl, pk_mul]
  have a1 : (nI (3 * p) + 1 : Int32) = nI (3 * p + 1) := nI_1 _
  have a2 : (nI (3 * p) + 2 : Int32) = nI (3 * p + 2) := nI_add (3 * p) 2
  have c0 := C (3 * p) (by omega)
  have c1 := C (3 * p + 1) (by omega)
  have c2 := C (3 * p + 2) (by omega)
  rw [a0, a1, a2, tk_c (by omega), tk_c (by omega), tk_c (by omega), c0, c1, c2]
  have a3 : (27 + 3 * nI (T (3 * p)) + 2 : Int32) = nI (29 + 3 * T (3 * p)) := by
    rw [show (3 : Int32) = nI 3 from rfl, pk_mul, show (27 : Int32) = nI 27 from rfl, nI_add, show (2 : Int32) = nI 2 from rfl, nI_add, show 27 + 3 * T (3 * p) + 2 = 29 + 3 * T (3 * p) by omega]
  rw [a3, tk_c (by omega), C (29 + 3 * T (3 * p)) (by omega)]
  refine ⟨(tk_in (by omega) (by omega)).mpr (by omega), (tk_in (by omega) (by omega)).mpr (by omega), (tk_in (by omega) (by omega)).mpr (by omega), (tk_in (by omega) (by omega)).mpr (by omega), ?_⟩
  refine c_mbare S hb V W C O o3 ?_
  refine ⟨_, _, rfl, rfl, ?_⟩
  rw [show (47 : Int32).toNatClampNeg = 47 from rfl, show (49 : Int32).toNatClampNeg = 49 from rfl, C 47 (by omega), C 49 (by omega)]
  refine ⟨(tk_in (n := 47) (by omega) (by omega)).mpr (by omega), (tk_in (n := 49) (by omega) (by omega)).mpr (by omega), ?_⟩
  refine c_yardsBy S L H V W o3 (by omega) ⟨by omega, by omega, by omega, by omega, by omega, by omega⟩ ?_
  intro I' J' R' t' c' S' L' F'
  exact ⟨_, _, _, _, rfl, rfl, _, _, S', hQ I' J' R' t' c' S' L' F'⟩
theorem MR.put (C : MR I b T) {k x : Nat} : MR (zU I b k (nI x)) b (up T k x) := by
  intro j hj
  rw [zU_a]
  unfold up
  split
  · rfl
  · exact C j hj
theorem MR.row {T' : Nat → Nat} (C : MR I b T) (h : ∀ k, k < 50 → T' k = T k) : MR I b T' := fun k hk => by rw [h k hk]; exact C k hk
theorem c_forgives (S : hMod G R K n m t c) (hb : sA G K n b 32 231) (hbm : b = m + 13 ∨ b = m + 14) (L : LMo I J m nl tl tt cd) (H : HLD I m nl cd Wc) (V : VM I m nf Y) (W : okV nf Y) (C : MR I b T) (O : okT B nf Y T) {p : Nat} (hp : p < 9) (ho : 0 < T (3 * p + 2)) (hQ : ∀ I' J' R' t' c', hMod G R' K n m t' c' → LMo I' J' m nl tl tt cd → FMo (fun q => q = b) m I I' J J' R R' → MR I' b (pardonT Wc Y T p) → (∀ k, 50 ≤ k → I' b k = I b k) → Q (some (.int (nI (yardsA Wc Y T p)))) (I', J', R', K, n)) : zC G (d + 36) mX12_forgives 0 0 [.ref m, .ref b, .int (nI p)] (I, J, R, K, n) Q := by
  have h6 := W.1
  obtain ⟨o2, o3, -⟩ := (O.1 p hp).2 ho
  have hy := yardsA_le (Wc := Wc) (Y := Y) (T := T) (p := p)
  have o45 := O.2.2.2.2.1
  have a0 : (3 * nI p : Int32) = nI (3 * p) := by rw [show (3 : Int32) = nI 3 from rfl, pk_mul]
  have a1 : (nI (3 * p) + 1 : Int32) = nI (3 * p + 1) := nI_1 _
  refine zC.of (by decide) (Nat.le_of_ble_eq_true rfl) ?_
  refine wX12_forgives_0 m t c b hb S _ ?_
  refine c_myards S hb L H V W C O hp ho ?_
  intro I' J' R' t' c' S' L' F'
  refine ⟨_, _, _, _, rfl, rfl, _, _, S', ?_⟩
  have C' : MR I' b T := C.fm F' id (by omega) (by omega) (by omega)
  rw [a0, a1, tk_c (by omega), tk_c (by omega), C' (3 * p + 1) (by omega)]
  have a3 : (27 + 3 * nI (T (3 * p + 1)) + 0 : Int32) = nI (27 + 3 * T (3 * p + 1)) := by
    rw [show (3 : Int32) = nI 3 from rfl, pk_mul, show (27 : Int32) = nI 27 from rfl, nI_add, show (0 : Int32) = nI 0 from rfl, nI_add, Nat.add_zero]
  rw [a3, tk_c (by omega), C' (27 + 3 * T (3 * p + 1)) (by omega), nI_add]
  refine ⟨(tk_in (by omega) (by omega)).mpr (by omega), (tk_in (by omega) (by omega)).mpr (by omega), (tk_in (by omega) (by omega)).mpr (by omega), ?_⟩
  intro I10 e10
  have C10 := C'.put (k := 27 + 3 * T (3 * p + 1)) (x := T (27 + 3 * T (3 * p + 1)) + yardsA Wc Y T p)
  rw [← e10] at C10
  have a4 : (27 + 3 * I10 b (3 * p) + 2 : Int32) = nI (29 + 3 * T (3 * p)) := by
    rw [C10 (3 * p) (by omega), up_ne (by omega), show (3 : Int32) = nI 3 from rfl, pk_mul, show (27 : Int32) = nI 27 from rfl, nI_add, show (2 : Int32) = nI 2 from rfl, nI_add, show 27 + 3 * T (3 * p) + 2 = 29 + 3 * T (3 * p) by omega]
  rw [a4, tk_c (by omega), C10 (29 + 3 * T (3 * p)) (by omega), up_ne (by omega), nI_1]
  refine ⟨(tk_in (by omega) (by omega)).mpr (by omega), (tk_in (by omega) (by omega)).mpr (by omega), (tk_in (by omega) (by omega)).mpr (by omega), ?_⟩
  intro I13 e13
  have C13 := C10.put (k := 29 + 3 * T (3 * p)) (x := T (29 + 3 * T (3 * p)) + 1)
  rw [← e13] at C13
  rw [show (47 : Int32).toNatClampNeg = 47 from rfl, C13 47 (by omega), up_ne (by omega), up_ne (by omega), tk_sub hy.2]
  refine ⟨(tk_in (n := 47) (by omega) (by omega)).mpr (by omega), (tk_in (n := 47) (by omega) (by omega)).mpr (by omega), ?_⟩
  intro I15 e15
  have C15 := C13.put (k := 47) (x := T 47 - yardsA Wc Y T p)
  rw [← e15] at C15
  rw [show (45 : Int32).toNatClampNeg = 45 from rfl, C15 45 (by omega), up_ne (by omega), up_ne (by omega), up_ne (by omega), nI_1]
  refine ⟨(tk_in (n := 45) (by omega) (by omega)).mpr (by omega), (tk_in (n := 45) (by omega) (by omega)).mpr (by omega), ?_⟩
  intro I17 e17
  rw [show (999 : Int32) = nI 999 from rfl] at e17
  simp (disch := omega) only [tk_0, tk_1, tk_2, tk_3, tk_4, tk_5, tk_6, tk_7, tk_8, tk_9, tk_10, tk_11, tk_12, tk_13, tk_14, tk_15, tk_16, tk_20, tk_24, tk_25, tk_26, tk_27, tk_28, tk_29, tk_30, tk_31, tk_32, tk_40, tk_41, tk_45, tk_46, tk_47, tk_48, tk_49, tk_50, tk_51, tk_57, tk_60, tk_99, tk_100, tk_120, tk_128, tk_231, tk_240, tk_255, tk_500, tk_999, tk_9999, tk_10000, pk_mul, nI_add, tk_c, tk_in, tk_lt, tk_le, tk_eq, tk_and31, tk_shl1, tk_shr1, tk_and1, tk_or, tk_ite, tk_tb, tk_mn, tk_mx] at e17
  have C17 := C15.put (k := 45) (x := min 999 (T 45 + 1))
  rw [← e17] at C17
  have F17 : FMo (fun q => q = b) m I I17 J J' R R' := by
    have F0 := F'.wide (A' := fun q => q = b) (fun _ h => absurd h id)
    rw [e17, e15, e13, e10]
    exact (((F0.put rfl (by omega)).put rfl (by omega)).put rfl (by omega)).put rfl (by omega)
  have L17 : LMo I17 J' m nl tl tt cd := by
    rw [e17, e15, e13, e10]
    exact (((L'.put (by omega) (by omega) (by omega) (by omega) (by omega)).put (by omega) (by omega) (by omega) (by omega) (by omega)).put (by omega) (by omega) (by omega) (by omega) (by omega)).put (by omega) (by omega) (by omega) (by omega) (by omega)
  have k17 : ∀ k, 50 ≤ k → I17 b k = I b k := by
    intro k hk
    rw [e17, zU_ne (by omega), e15, zU_ne (by omega), e13, zU_ne (by omega), e10, zU_ne (by omega), F'.1 b id (by omega) (by omega) (by omega)]
  have loop : ∀ (j i : Nat) (I1 : Nat → Nat → Int32), i + j = 3 → FMo (fun q => q = b) m I I1 J J' R R' → LMo I1 J' m nl tl tt cd → (∀ k, 50 ≤ k → I1 b k = I b k) → (∀ k, k < 50 → I1 b k = if 3 * p ≤ k ∧ k < 3 * p + i then 0 else I17 b k) → zV G (d + 36) mX12_forgives 0 0 72 [(0, .ref m), (1, .ref b), (2, .int (nI p)), (3, .int (nI (yardsA Wc Y T p))), (4, .int (nI i))] [] (I1, J', R', K, n) Q := by
    intro j
    induction j with
    | zero =>
      intro i I1 hi F1 L1 k1 r1
      obtain rfl : i = 3 := by omega
      refine wX12_forgives_72 m t' c' b hb S' _ _ _ ⟨fun _ => hQ I1 J' R' t' c' S' L1 F1 ?_ k1, fun h => absurd (by decide) h⟩
      intro k hk
      rw [r1 k hk]
      unfold pardonT paintT
      by_cases h : 3 * p ≤ k ∧ k < 3 * p + 3
      · rw [if_pos h, up_ne (by omega), zeroT_at h.1 (by omega)]; rfl
      · rw [if_neg h, C17 k hk]
        by_cases h45 : k = 45
        · subst h45; rw [up_at, up_at]
        · rw [up_ne h45, up_ne h45, zeroT_ne (by omega)]
          by_cases h47 : k = 47
          · subst h47; rw [up_at, up_ne (by omega), up_at]
          · rw [up_ne h47]
            by_cases h29 : k = 29 + 3 * T (3 * p)
            · subst h29; rw [up_at, up_at]
            · rw [up_ne h29, up_ne h29, up_ne h47]
    | succ j ih =>
      intro i I1 hi F1 L1 k1 r1
      refine wX12_forgives_72 m t' c' b hb S' _ _ _ ⟨fun h => ?_, fun _ => ?_⟩
      · rw [show (3 : Int32) = nI 3 from rfl, tk_le (by omega) (by omega)] at h
        omega
      · rw [a0, nI_add, tk_c (by omega)]
        refine ⟨(tk_in (by omega) (by omega)).mpr (by omega), ?_⟩
        intro I2 e2
        rw [nI_1]
        refine ih (i + 1) I2 (by omega) (by rw [e2]; exact F1.put rfl (by omega)) (by rw [e2]; exact L1.put (by omega) (by omega) (by omega) (by omega) (by omega)) (fun k hk => by rw [e2, zU_ne (by omega)]; exact k1 k hk) (fun k hk => ?_)
        rw [e2, zU_a]
        by_cases h : k = 3 * p + i
        · rw [if_pos h, if_pos (by omega)]
        · rw [if_neg h, r1 k hk]
          by_cases h2 : 3 * p ≤ k ∧ k < 3 * p + i
          · rw [if_pos h2, if_pos (by omega)]
          · rw [if_neg h2, if_neg (by omega)]
  exact loop 3 0 I17 (by omega) F17 L17 k17 (fun k hk => by rw [if_neg (by omega)])
end
