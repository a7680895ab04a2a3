/-! HOW THE MODEL READS A LAW: all its parts -/
section
variable {G : zG} {d : Nat} {I : Nat → Nat → Int32} {J : Nat → Nat → Int64} {R : Nat → Nat → Option Nat} {K : Nat → Nat × Nat} {n : Nat} {m t c bg ln : Nat} {tx : Nat → Nat}
/-- what is shown of all parts at a measure -/
def ml_atom (G : zG) (I : Nat → Nat → Int32) (J : Nat → Nat → Int64) (R : Nat → Nat → Option Nat) (K : Nat → Nat × Nat) (n m ln : Nat) (tx : Nat → Nat) (L : Nat → Int32) (f : Nat) : Prop := ∀ (e p D : Nat) (Q : Option Value → zH → Prop), e ≤ 6 → p ≤ ln → 8 * (ln - p) + cm 9 ≤ f → fm 9 e ≤ D → PM Q I J R K n m e false L (hm 9 e) [] (pz tx ln f 9 e p) → zC G D mX12_atom 0 0 [.ref m] (MH I m p (-1) (nI e), J, R, K, n) Q
def ml_term (G : zG) (I : Nat → Nat → Int32) (J : Nat → Nat → Int64) (R : Nat → Nat → Option Nat) (K : Nat → Nat × Nat) (n m ln : Nat) (tx : Nat → Nat) (L : Nat → Int32) (f : Nat) : Prop := ∀ (e p D : Nat) (Q : Option Value → zH → Prop), e ≤ 6 → p ≤ ln → 8 * (ln - p) + cm 3 ≤ f → fm 3 e ≤ D → PM Q I J R K n m e false L (hm 3 e) [] (pz tx ln f 3 e p) → zC G D mX12_term 0 0 [.ref m] (MH I m p (-1) (nI e), J, R, K, n) Q
def ml_sum (G : zG) (I : Nat → Nat → Int32) (J : Nat → Nat → Int64) (R : Nat → Nat → Option Nat) (K : Nat → Nat × Nat) (n m ln : Nat) (tx : Nat → Nat) (L : Nat → Int32) (f : Nat) : Prop := ∀ (e p D : Nat) (Q : Option Value → zH → Prop), e ≤ 6 → p ≤ ln → 8 * (ln - p) + cm 2 ≤ f → fm 2 e ≤ D → PM Q I J R K n m e false L (hm 2 e) [] (pz tx ln f 2 e p) → zC G D mX12_sum 0 0 [.ref m] (MH I m p (-1) (nI e), J, R, K, n) Q
def ml_tl (G : zG) (I : Nat → Nat → Int32) (J : Nat → Nat → Int64) (R : Nat → Nat → Option Nat) (K : Nat → Nat × Nat) (n m ln : Nat) (tx : Nat → Nat) (L : Nat → Int32) (f : Nat) : Prop := ∀ (e p D : Nat) (v : Int32) (Q : Option Value → zH → Prop), e ≤ 6 → p ≤ ln → 8 * (ln - p) + 1 ≤ f → fm 3 e ≤ D + 1 → v ≠ Int32.minValue → PM Q I J R K n m e false L (hm 3 e) [v] (pz tx ln f 7 e p) → zV G (D + 1) mX12_term 0 0 5 [(0, .ref m), (1, .int v)] [] (MH I m p (-1) (nI e), J, R, K, n) Q
def ml_sl (G : zG) (I : Nat → Nat → Int32) (J : Nat → Nat → Int64) (R : Nat → Nat → Option Nat) (K : Nat → Nat × Nat) (n m ln : Nat) (tx : Nat → Nat) (L : Nat → Int32) (f : Nat) : Prop := ∀ (e p D : Nat) (v : Int32) (Q : Option Value → zH → Prop), e ≤ 6 → p ≤ ln → 8 * (ln - p) + 1 ≤ f → fm 2 e ≤ D + 1 → v ≠ Int32.minValue → PM Q I J R K n m e false L (hm 2 e) [v] (pz tx ln f 6 e p) → zV G (D + 1) mX12_sum 0 0 5 [(0, .ref m), (1, .int v)] [] (MH I m p (-1) (nI e), J, R, K, n) Q
def ml_c1 (G : zG) (I : Nat → Nat → Int32) (J : Nat → Nat → Int64) (R : Nat → Nat → Option Nat) (K : Nat → Nat × Nat) (n m ln : Nat) (tx : Nat → Nat) (L : Nat → Int32) (f : Nat) : Prop := ∀ (e p D : Nat) (v : Int32) (Q : Option Value → zH → Prop), e ≤ 6 → p ≤ ln → 8 * (ln - p) + cm 10 ≤ f → fm 10 e ≤ D → PM Q I J R K n m e true L (hm 10 e) [v] (pz tx ln f 10 e p) → zC G D mX12_compares 0 0 [.ref m, .int 1, .int v] (MH I m p (-1) (nI e), J, R, K, n) Q
def ml_c0 (G : zG) (I : Nat → Nat → Int32) (J : Nat → Nat → Int64) (R : Nat → Nat → Option Nat) (K : Nat → Nat × Nat) (n m ln : Nat) (tx : Nat → Nat) (L : Nat → Int32) (f : Nat) : Prop := ∀ (e p D : Nat) (Q : Option Value → zH → Prop), e ≤ 6 → p ≤ ln → 8 * (ln - p) + 3 ≤ f → fm 10 e ≤ D → PM Q I J R K n m e true L (hm 10 e) [] (sq (pz tx ln f 2 e p) (fun q => pz tx ln f 10 e q)) → zC G D mX12_compares 0 0 [.ref m, .int 0, .int 0] (MH I m p (-1) (nI e), J, R, K, n) Q
def ml_unit (G : zG) (I : Nat → Nat → Int32) (J : Nat → Nat → Int64) (R : Nat → Nat → Option Nat) (K : Nat → Nat × Nat) (n m ln : Nat) (tx : Nat → Nat) (L : Nat → Int32) (f : Nat) : Prop := ∀ (e p D : Nat) (Q : Option Value → zH → Prop), e ≤ 6 → p ≤ ln → 8 * (ln - p) + cm 8 ≤ f → fm 8 e ≤ D → PM Q I J R K n m e true L (hm 8 e) [] (pz tx ln f 8 e p) → zC G D mX12_unit 0 0 [.ref m] (MH I m p (-1) (nI e), J, R, K, n) Q
def ml_p0 (G : zG) (I : Nat → Nat → Int32) (J : Nat → Nat → Int64) (R : Nat → Nat → Option Nat) (K : Nat → Nat × Nat) (n m ln : Nat) (tx : Nat → Nat) (L : Nat → Int32) (f : Nat) : Prop := ∀ (e p D : Nat) (Q : Option Value → zH → Prop), e ≤ 6 → p ≤ ln → 8 * (ln - p) + cm 1 ≤ f → fm 1 e ≤ D → PM Q I J R K n m e true L (hm 1 e) [] (pz tx ln f 1 e p) → zC G D mX12_part 0 0 [.ref m, .int 0, .int 0] (MH I m p (-1) (nI e), J, R, K, n) Q
def ml_p1 (G : zG) (I : Nat → Nat → Int32) (J : Nat → Nat → Int64) (R : Nat → Nat → Option Nat) (K : Nat → Nat × Nat) (n m ln : Nat) (tx : Nat → Nat) (L : Nat → Int32) (f : Nat) : Prop := ∀ (e p D : Nat) (v : Int32) (Q : Option Value → zH → Prop), e ≤ 6 → p ≤ ln → 8 * (ln - p) + cm 12 ≤ f → fm 12 e ≤ D → PM Q I J R K n m e true L (hm 12 e) [v] (pz tx ln f 12 e p) → zC G D mX12_part 0 0 [.ref m, .int 1, .int v] (MH I m p (-1) (nI e), J, R, K, n) Q
def ml_pl (G : zG) (I : Nat → Nat → Int32) (J : Nat → Nat → Int64) (R : Nat → Nat → Option Nat) (K : Nat → Nat × Nat) (n m ln : Nat) (tx : Nat → Nat) (L : Nat → Int32) (f : Nat) : Prop := ∀ (e p D : Nat) (v l1 l2 : Int32) (Q : Option Value → zH → Prop), e ≤ 6 → p ≤ ln → 8 * (ln - p) + 1 ≤ f → fm 1 e ≤ D + 1 → (v = 0 ∨ v = 1) → PM Q I J R K n m e true L (hm 1 e) [v] (pz tx ln f 5 e p) → zV G (D + 1) mX12_part 0 0 18 [(0, .ref m), (1, .int l1), (2, .int l2), (3, .int v)] [] (MH I m p (-1) (nI e), J, R, K, n) Q
def ml_k0 (G : zG) (I : Nat → Nat → Int32) (J : Nat → Nat → Int64) (R : Nat → Nat → Option Nat) (K : Nat → Nat × Nat) (n m ln : Nat) (tx : Nat → Nat) (L : Nat → Int32) (f : Nat) : Prop := ∀ (e p D : Nat) (Q : Option Value → zH → Prop), e ≤ 6 → p ≤ ln → 8 * (ln - p) + cm 0 ≤ f → fm 0 e ≤ D → PM Q I J R K n m e true L (hm 0 e) [] (pz tx ln f 0 e p) → zC G D mX12_condition 0 0 [.ref m, .int 0, .int 0] (MH I m p (-1) (nI e), J, R, K, n) Q
def ml_k1 (G : zG) (I : Nat → Nat → Int32) (J : Nat → Nat → Int64) (R : Nat → Nat → Option Nat) (K : Nat → Nat × Nat) (n m ln : Nat) (tx : Nat → Nat) (L : Nat → Int32) (f : Nat) : Prop := ∀ (e p D : Nat) (v : Int32) (Q : Option Value → zH → Prop), e ≤ 6 → p ≤ ln → 8 * (ln - p) + cm 11 ≤ f → fm 11 e ≤ D → PM Q I J R K n m e true L (hm 11 e) [v] (pz tx ln f 11 e p) → zC G D mX12_condition 0 0 [.ref m, .int 1, .int v] (MH I m p (-1) (nI e), J, R, K, n) Q
def ml_kl (G : zG) (I : Nat → Nat → Int32) (J : Nat → Nat → Int64) (R : Nat → Nat → Option Nat) (K : Nat → Nat × Nat) (n m ln : Nat) (tx : Nat → Nat) (L : Nat → Int32) (f : Nat) : Prop := ∀ (e p D : Nat) (v l1 l2 : Int32) (Q : Option Value → zH → Prop), e ≤ 6 → p ≤ ln → 8 * (ln - p) + 1 ≤ f → fm 0 e ≤ D + 1 → (v = 0 ∨ v = 1) → PM Q I J R K n m e true L (hm 0 e) [v] (pz tx ln f 4 e p) → zV G (D + 1) mX12_condition 0 0 7 [(0, .ref m), (1, .int l1), (2, .int l2), (3, .int v)] [] (MH I m p (-1) (nI e), J, R, K, n) Q
theorem mlp_atom (S : hMod G R K n m t c) (V : TM I m t c bg ln tx) {L : Nat → Int32} (hL : L = (fun k => I (m + 4) (chrA 3 k).toNatClampNeg)) (hM : ∀ k, k < 6 → L k ≠ Int32.minValue) {f : Nat} (ihS : ml_sum G I J R K n m ln tx L f) : ml_atom G I J R K n m ln tx L (f + 1) := by
  intro e p D Q he hp hf hD hP
  have hl := V.1
  have c1 : cm 9 = 1 := rfl
  have c2 : fm 9 e = 6 + 3 * (6 - e) + 0 := rfl
  have h9 : hm 9 e = 2 * (6 - e) + 1 := rfl
  rw [c1] at hf; rw [c2] at hD
  obtain ⟨D, rfl⟩ : ∃ D', D = D' + 6 := ⟨D - 6, by omega⟩
  have g1 := sk_ge (tx := tx) (ln := ln) (p := p)
  have g2 := sk_le (tx := tx) hp
  rw [pz, if_neg (by omega), if_neg (by omega), if_neg (by omega), if_pos (by omega)] at hP
  refine zC.of (by decide) (Nat.le_of_ble_eq_true rfl) ?_
  refine wX12_atom_0 m t c S ?_
  refine c_look S V hp ?_
  refine ⟨_, _, rfl, rfl, ?_⟩
  refine c_isAmong (i := 3) (by decide) ?_
  refine ⟨_, _, rfl, rfl, ?_⟩
  by_cases hi : idxA 3 (lk tx ln p) = -1
  · rw [if_pos hi] at hP ⊢
    refine ⟨fun _ => ?_, fun h => absurd rfl h⟩
    refine ⟨fun h91 => ?_, fun h91 => ?_⟩
    · rw [if_pos h91] at hP
      have hk := lk_lt (p := p) (tx := tx) (ln := ln) (by rw [h91]; decide)
      refine c_goesIn S he (fun h6 => ?_) (fun h6 => ?_)
      · rw [if_pos h6] at hP
        refine ⟨_, _, rfl, rfl, fun h => absurd h (by decide), fun _ => ?_⟩
        refine ihS (e + 1) (sk tx ln p + 1) _ _ (by omega) (by omega) (by have : cm 2 = 3 := rfl; omega) (by have : fm 2 (e + 1) = 6 + 3 * (6 - (e + 1)) + 2 := rfl; omega) ⟨fun cc v hc F hv _ => ⟨_, _, rfl, rfl, ?_⟩, fun hn v p' e' _ => ⟨_, _, rfl, rfl, ?_⟩⟩
        · have hb := pz_ok (tx := tx) (ln := ln) f 2 (e + 1) (sk tx ln p + 1) (pz tx ln f 2 (e + 1) (sk tx ln p + 1)).1 cc (by omega) (by rw [← hc])
          have F' : FR L cc [] [v] (hm 9 e) := F.wide (by have : hm 2 (e + 1) = 2 * (6 - (e + 1)) + 3 := rfl; omega)
          have hP2 := hP.sq2 hc F'
          unfold acc at hP2
          refine c_takes S V hb.2.1 (fun h => ?_) (fun h => ?_)
          · rw [if_pos h] at hP2
            refine ⟨_, _, rfl, rfl, fun h => absurd h (by decide), fun _ => ?_⟩
            rintro _ rfl
            rw [MH_at.2.2, nI_pred, MH_12]
            exact hP2.1 [] v rfl FR.nil hv (fun h => absurd h (by decide))
          · rw [if_neg h] at hP2
            exact ⟨_, _, rfl, rfl, fun _ => hP2.2 rfl 0 _ _ (fun h => absurd h (by decide)), fun h => absurd rfl h⟩
        · have hle := pz_le (tx := tx) (ln := ln) f 2 (e + 1) (sk tx ln p + 1) (by omega)
          refine c_takes_f S (by omega) ?_
          refine ⟨_, _, rfl, rfl, ?_⟩
          exact ⟨fun _ => hP.sq1 hn 0 p' e' (fun h => absurd h (by decide)), fun h => absurd rfl h⟩
      · rw [if_neg h6] at hP
        exact ⟨_, _, rfl, rfl, fun _ => hP.2 rfl 0 _ _ (fun h => absurd h (by decide)), fun h => absurd rfl h⟩
    · rw [if_neg h91] at hP
      unfold nmA at hP
      rw [sk_sk] at hP
      refine c_isDigit S V g2 ?_
      refine ⟨_, _, rfl, rfl, ?_⟩
      have loop : ∀ (j i q v : Nat), i + j = 4 → v < 10 ^ i → q ≤ ln → (dgB tx ln (numF tx ln j q v).1 = true → Q (some (.int 0)) (MH I m (numF tx ln j q v).1 (nI (numF tx ln j q v).1) (nI e), J, R, K, n)) → (¬ dgB tx ln (numF tx ln j q v).1 = true → Q (some (.int (nI (numF tx ln j q v).2))) (MH I m (numF tx ln j q v).1 (-1) (nI e), J, R, K, n)) → zV G (D + 6) mX12_atom 0 0 90 [(0, .ref m), (1, .int (lk tx ln p)), (2, .int (nI v)), (3, .int (nI i))] [] (MH I m q (-1) (nI e), J, R, K, n) Q := by
        intro j
        induction j with
        | zero =>
          intro i q v hij hv hq q1 q0
          rw [numF] at q1 q0
          refine wX12_atom_90 m t c S _ _ _ ?_
          refine c_isDigit S V hq ?_
          refine ⟨_, _, rfl, rfl, ?_⟩
          by_cases hd : dgB tx ln q = true
          · rw [if_pos hd]
            refine ⟨fun h => absurd h (by decide), fun _ => ?_⟩
            rw [MH_at.2.1]
            refine ⟨fun _ => ⟨fun _ => ?_, fun h => absurd (by rw [show i = 4 by omega]; rfl) h⟩, fun h => absurd rfl h⟩
            refine c_fails S ?_
            refine ⟨_, _, rfl, rfl, ?_⟩
            exact q1 hd
          · rw [if_neg hd]
            exact ⟨fun _ => q0 hd, fun h => absurd rfl h⟩
        | succ j ih =>
          intro i q v hij hv hq q1 q0
          rw [numF] at q1 q0
          have h4 : 10 ^ i ≤ 10 ^ 4 := Nat.pow_le_pow_right (by decide) (by omega)
          have h5 : 10 ^ (i + 1) = 10 ^ i * 10 := Nat.pow_succ ..
          refine wX12_atom_90 m t c S _ _ _ ?_
          refine c_isDigit S V hq ?_
          refine ⟨_, _, rfl, rfl, ?_⟩
          by_cases hd : dgB tx ln q = true
          · rw [if_pos hd] at q1 q0
            rw [if_pos hd]
            obtain ⟨k1, k2, k3⟩ := dgB_iff.mp hd
            obtain ⟨e8, e9, e10, et⟩ := V.ee S.ne q (-1) (nI e)
            have hc2 := V.2.1
            have hc3 := V.2.2.1
            obtain ⟨b1, b2, b3⟩ := V.2.2.2.2.2 q k1
            have b4 := (sbb_dec (tx q) b3).2.2.2.2.2 k2 k3
            refine ⟨fun h => absurd h (by decide), fun _ => ?_⟩
            rw [MH_at.2.1]
            refine ⟨fun _ => ⟨fun h => ?_, fun _ => ?_⟩, fun h => absurd rfl h⟩
            · rw [show (4 : Int32) = nI 4 from rfl, tk_eq (by omega) (by omega)] at h
              omega
            · rw [e8, e10, et, nI_add, tk_c (by omega), b1, b4]
              refine ⟨(tk_in (by omega) (by omega)).mpr (by omega), ?_⟩
              rintro _ rfl
              rw [nI_1, nI_1, MH_10]
              rw [show (10 : Int32) * nI v + nI (tx q) - 48 = nI (10 * v + (tx q - 48)) by
                rw [show (10 : Int32) = nI 10 from rfl, pk_mul, nI_add, show (48 : Int32) = nI 48 from rfl, tk_sub (by omega), Nat.add_sub_assoc k2]]
              exact ih (i + 1) (q + 1) _ (by omega) (by omega) (by omega) q1 q0
          · rw [if_neg hd] at q1 q0
            rw [if_neg hd]
            exact ⟨fun _ => q0 hd, fun h => absurd rfl h⟩
      by_cases hd : dgB tx ln (sk tx ln p) = true
      · rw [if_pos hd] at hP ⊢
        refine ⟨fun h => absurd h (by decide), fun _ => ?_⟩
        refine loop 4 0 _ 0 (by omega) (by decide) g2 (fun h => ?_) (fun h => ?_)
        · rw [if_pos h] at hP
          exact hP.2 rfl 0 _ _ (fun h => absurd h (by decide))
        · rw [if_neg h] at hP
          have hz := numF_sz tx ln 4 (sk tx ln p) 0 1 (by decide)
          generalize (numF tx ln 4 (sk tx ln p) 0).2 = z at hP hz ⊢
          refine hP.1 [nI z] (nI z) rfl ?_ ?_ (fun h => absurd h (by decide))
          · have F := FR.push (L := L) (x := nI z) (nI_pos (by omega)) (by
              have : nI z - 10000 < nI 6 := by
                have hs : nI z - nI 10000 < 0 := pk_sneg (by omega) (by omega)
                rw [Int32.lt_iff_toInt_lt] at hs ⊢
                have e0 : (0 : Int32).toInt = 0 := rfl
                have e6 : (nI 6).toInt = 6 := rfl
                have e1 : (nI z - 10000) = nI z - nI 10000 := rfl
                rw [e1]
                omega
              exact this)
            rw [if_neg (by rw [show (10000 : Int32) = nI 10000 from rfl, tk_le (by omega) (by omega)]; omega)] at F
            exact F.wide (by omega)
          · intro h
            have := congrArg Int32.toInt h
            rw [nI_toInt (by omega)] at this
            have e3 : Int32.minValue.toInt = -2147483648 := rfl
            rw [e3] at this
            omega
      · rw [if_neg hd] at hP ⊢
        refine ⟨fun _ => ?_, fun h => absurd rfl h⟩
        refine c_fails S ?_
        refine ⟨_, _, rfl, rfl, ?_⟩
        refine wX12_atom_90 m t c S _ _ _ ?_
        refine c_isDigit S V g2 ?_
        refine ⟨_, _, rfl, rfl, ?_⟩
        rw [if_neg hd]
        exact ⟨fun _ => hP.2 rfl 0 _ _ (fun h => absurd h (by decide)), fun h => absurd rfl h⟩
  · obtain ⟨k, -, k2, k3, k4⟩ := idxF_spec 3 (lk tx ln p) (lenA 3) 0 hi
    have k5 : k < 6 := by have := (lenA_le 3 (by decide)).2; omega
    have k6 : idxA 3 (lk tx ln p) = nI k := k3
    have hk := lk_lt (p := p) (tx := tx) (ln := ln) (fun h => by rw [h] at hi; exact hi (by decide))
    have h91 : lk tx ln p ≠ 91 := fun h => by rw [h] at hi; exact hi (by decide)
    rw [if_neg h91, if_neg hi] at hP
    rw [if_neg hi]
    refine ⟨fun h => absurd h (by decide), fun _ => ?_⟩
    rintro _ rfl
    rw [MH_at.1, nI_1, MH_10, MH_b (by omega)]
    have hin : ∀ k : Nat, k < 6 → vp_in (chrA 3 k) 128 := by
      intro k hk
      obtain rfl | rfl | rfl | rfl | rfl | rfl : k = 0 ∨ k = 1 ∨ k = 2 ∨ k = 3 ∨ k = 4 ∨ k = 5 := by omega
      · exact (tk_in (n := 107) (by omega) (by omega)).mpr (by omega)
      · exact (tk_in (n := 103) (by omega) (by omega)).mpr (by omega)
      · exact (tk_in (n := 110) (by omega) (by omega)).mpr (by omega)
      · exact (tk_in (n := 98) (by omega) (by omega)).mpr (by omega)
      · exact (tk_in (n := 108) (by omega) (by omega)).mpr (by omega)
      · exact (tk_in (n := 100) (by omega) (by omega)).mpr (by omega)
    refine ⟨by rw [← k4]; exact hin k k5, ?_⟩
    rw [k6, show (10000 : Int32) + nI k = nI (10000 + k) from nI_add _ _] at hP
    have eL : I (m + 4) (lk tx ln p).toNatClampNeg = L k := by rw [hL, ← k4]
    rw [eL]
    refine hP.1 _ (L k) rfl ?_ (hM k k5) (fun h => absurd h (by decide))
    have F := FR.push (L := L) (x := nI (10000 + k)) (nI_pos (by omega)) (by
      rw [show (10000 : Int32) = nI 10000 from rfl, tk_sub (by omega), show 10000 + k - 10000 = k by omega, show (6 : Int32) = nI 6 from rfl, tk_lt (by omega) (by omega)]
      exact k5)
    rw [if_pos (by rw [show (10000 : Int32) = nI 10000 from rfl, tk_le (by omega) (by omega)]; omega), show nI (10000 + k) - 10000 = nI k by rw [show (10000 : Int32) = nI 10000 from rfl, tk_sub (by omega), show 10000 + k - 10000 = k by omega], tk_c (by omega)] at F
    exact F.wide (by omega)
theorem mlp_term (S : hMod G R K n m t c) (V : TM I m t c bg ln tx) {L : Nat → Int32} {f : Nat} (ihE : ml_atom G I J R K n m ln tx L f) (ihL : ml_tl G I J R K n m ln tx L f) : ml_term G I J R K n m ln tx L (f + 1) := by
  intro e p D Q he hp hf hD hP
  have hl := V.1
  have c1 : cm 3 = 2 := rfl
  have c2 : fm 3 e = 6 + 3 * (6 - e) + 1 := rfl
  rw [c1] at hf; rw [c2] at hD
  obtain ⟨D, rfl⟩ : ∃ D', D = D' + 1 := ⟨D - 1, by omega⟩
  rw [pz, if_pos (by omega)] at hP
  rw [show elm 3 = 9 from rfl] at hP
  refine zC.of (by decide) (Nat.le_of_ble_eq_true rfl) ?_
  refine wX12_term_0 m t c S ?_
  refine ihE e p D _ he hp (by have : cm 9 = 1 := rfl; omega) (by have : fm 9 e = 6 + 3 * (6 - e) + 0 := rfl; omega) ⟨fun cc v hc F hv _ => ⟨_, _, rfl, rfl, ?_⟩, fun hn v p' e' _ => ⟨_, _, rfl, rfl, ?_⟩⟩
  · have hb := pz_ok (tx := tx) (ln := ln) f 9 e p (pz tx ln f 9 e p).1 cc hp (by rw [← hc])
    have h7 := hb.2.2 (by decide)
    exact ihL e _ D v Q he hb.2.1 (by omega) (by omega) hv (hP.sq2 hc (F.wide (by have a1 : hm 9 e = 2 * (6 - e) + 1 := rfl; have a2 : hm 3 e = 2 * (6 - e) + 2 := rfl; omega)))
  · have hle := pz_le (tx := tx) (ln := ln) f 9 e p hp
    exact term_f S (by omega) (hP.sq1 hn v p' e' (fun h => absurd h (by decide)))
theorem mlp_sum (S : hMod G R K n m t c) (V : TM I m t c bg ln tx) {L : Nat → Int32} {f : Nat} (ihE : ml_term G I J R K n m ln tx L f) (ihL : ml_sl G I J R K n m ln tx L f) : ml_sum G I J R K n m ln tx L (f + 1) := by
  intro e p D Q he hp hf hD hP
  have hl := V.1
  have c1 : cm 2 = 3 := rfl
  have c2 : fm 2 e = 6 + 3 * (6 - e) + 2 := rfl
  rw [c1] at hf; rw [c2] at hD
  obtain ⟨D, rfl⟩ : ∃ D', D = D' + 1 := ⟨D - 1, by omega⟩
  rw [pz, if_pos (by omega)] at hP
  rw [show elm 2 = 3 from rfl] at hP
  refine zC.of (by decide) (Nat.le_of_ble_eq_true rfl) ?_
  refine wX12_sum_0 m t c S ?_
  refine ihE e p D _ he hp (by have : cm 3 = 2 := rfl; omega) (by have : fm 3 e = 6 + 3 * (6 - e) + 1 := rfl; omega) ⟨fun cc v hc F hv _ => ⟨_, _, rfl, rfl, ?_⟩, fun hn v p' e' _ => ⟨_, _, rfl, rfl, ?_⟩⟩
  · have hb := pz_ok (tx := tx) (ln := ln) f 3 e p (pz tx ln f 3 e p).1 cc hp (by rw [← hc])
    have h7 := hb.2.2 (by decide)
    exact ihL e _ D v Q he hb.2.1 (by omega) (by omega) hv (hP.sq2 hc (F.wide (by have a1 : hm 3 e = 2 * (6 - e) + 2 := rfl; have a2 : hm 2 e = 2 * (6 - e) + 3 := rfl; omega)))
  · have hle := pz_le (tx := tx) (ln := ln) f 3 e p hp
    exact sum_f S (by omega) (hP.sq1 hn v p' e' (fun h => absurd h (by decide)))
theorem mlp_tl (S : hMod G R K n m t c) (V : TM I m t c bg ln tx) {L : Nat → Int32} {f : Nat} (ihE : ml_atom G I J R K n m ln tx L f) (ihL : ml_tl G I J R K n m ln tx L f) : ml_tl G I J R K n m ln tx L (f + 1) := by
  intro e p D v Q he hp hf hD hv hP
  have hl := V.1
  have c2 : fm 3 e = 6 + 3 * (6 - e) + 1 := rfl
  rw [c2] at hD
  obtain ⟨D, rfl⟩ : ∃ D', D = D' + 1 := ⟨D - 1, by omega⟩
  have g1 := sk_ge (tx := tx) (ln := ln) (p := p)
  have g2 := sk_le (tx := tx) hp
  rw [pz, if_neg (by omega), if_pos (by omega), show 7 - 4 = 3 from rfl, show elm 3 = 9 from rfl] at hP
  have hj : jn 3 (lk tx ln p) = (decide (lk tx ln p = 42) || decide (lk tx ln p = 47)) := rfl
  refine wX12_term_5 m t c S _ ?_
  rw [MH_at.2.1]
  refine ⟨fun _ => ?_, fun h => absurd rfl h⟩
  refine c_look S V hp ?_
  refine ⟨_, _, rfl, rfl, ?_⟩
  refine ⟨fun h42 => ?_, fun h42 => ?_⟩
  ·
    have hk := lk_lt (p := p) (tx := tx) (ln := ln) (by rw [h42]; decide)
    rw [if_pos (by rw [h42]; decide), h42] at hP
    refine c_look S V g2 ?_
    refine ⟨_, _, rfl, rfl, ?_⟩
    rw [sk_sk, lk_sk, h42]
    rintro _ rfl
    rw [MH_at.1, nI_1, MH_10]
    have hle := pz_le (tx := tx) (ln := ln) f 9 e (sk tx ln p + 1) (by omega)
    refine ihE e (sk tx ln p + 1) _ _ he (by omega) (by have : cm 9 = 1 := rfl; omega) (by have : fm 9 e = 6 + 3 * (6 - e) + 0 := rfl; omega) ⟨fun cc x hc F hx _ => ⟨_, _, rfl, rfl, ?_⟩, fun hn x p' e' _ => ⟨_, _, rfl, rfl, ?_⟩⟩
    · refine ⟨fun _ h1 h2 => h1 ((lg_cmp_eq _ _).mpr h2), ?_⟩
      refine c_within ?_
      refine ⟨_, _, rfl, rfl, ?_⟩
      rw [if_pos rfl, if_neg (by decide), ← join_mul v x]
      have hb := pz_ok (tx := tx) (ln := ln) f 9 e (sk tx ln p + 1) (pz tx ln f 9 e (sk tx ln p + 1)).1 cc (by omega) (by rw [← hc])
      have hc' : sq (pz tx ln f 9 e (sk tx ln p + 1)) (em (-42)) = ((pz tx ln f 9 e (sk tx ln p + 1)).1, some (cc ++ [-42])) := sq_some2 hc rfl
      rw [hc'] at hP
      refine ihL e _ _ _ Q he hb.2.1 (by omega) (by omega) (by rw [join_mul v x]; exact wi_nm _) (hP.sq2 rfl ?_)
      have F' := F.join (s := 42) (v := v) (by have a1 : hm 9 e = 2 * (6 - e) + 1 := rfl; omega) (by decide) (by decide) (by decide) (by decide)
      exact F'.wide (by have a1 : hm 9 e = 2 * (6 - e) + 1 := rfl; have a2 : hm 3 e = 2 * (6 - e) + 2 := rfl; omega)
    · refine ⟨fun _ h1 h2 => h1 ((lg_cmp_eq _ _).mpr h2), ?_⟩
      refine c_within ?_
      refine ⟨_, _, rfl, rfl, ?_⟩
      refine term_f S (by omega) ?_
      have h5 : (sq (pz tx ln f 9 e (sk tx ln p + 1)) (em (-42))).2 = none := by rw [sq_none1 hn]
      have h6 := hP.sq1 h5 (wi (if ((if (42 : Int32) = 42 then 1 else 0) : Int32) = 0 then (if (lg_cmp x.toInt64 0 : Int32) = 0 then 0 else v.toInt64 / x.toInt64) else v.toInt64 * x.toInt64)) p' e' (fun h => absurd h (by decide))
      rw [sq_none1 hn] at h6
      exact h6
  · refine c_look S V g2 ?_
    refine ⟨_, _, rfl, rfl, ?_⟩
    rw [sk_sk, lk_sk]
    refine ⟨fun h47 => ?_, fun h47 => ?_⟩
    ·
      have hk := lk_lt (p := p) (tx := tx) (ln := ln) (by rw [h47]; decide)
      rw [if_pos (by rw [h47]; decide), h47] at hP
      refine c_look S V g2 ?_
      refine ⟨_, _, rfl, rfl, ?_⟩
      rw [sk_sk, lk_sk, h47]
      rintro _ rfl
      rw [MH_at.1, nI_1, MH_10]
      have hle := pz_le (tx := tx) (ln := ln) f 9 e (sk tx ln p + 1) (by omega)
      refine ihE e (sk tx ln p + 1) _ _ he (by omega) (by have : cm 9 = 1 := rfl; omega) (by have : fm 9 e = 6 + 3 * (6 - e) + 0 := rfl; omega) ⟨fun cc x hc F hx _ => ⟨_, _, rfl, rfl, ?_⟩, fun hn x p' e' _ => ⟨_, _, rfl, rfl, ?_⟩⟩
      · refine ⟨fun _ h1 h2 => h1 ((lg_cmp_eq _ _).mpr h2), ?_⟩
        refine c_within ?_
        refine ⟨_, _, rfl, rfl, ?_⟩
        rw [if_pos (show (if (47 : Int32) = 42 then (1 : Int32) else 0) = 0 by decide), ← join_div (w := x) hv]
        have hb := pz_ok (tx := tx) (ln := ln) f 9 e (sk tx ln p + 1) (pz tx ln f 9 e (sk tx ln p + 1)).1 cc (by omega) (by rw [← hc])
        have hc' : sq (pz tx ln f 9 e (sk tx ln p + 1)) (em (-47)) = ((pz tx ln f 9 e (sk tx ln p + 1)).1, some (cc ++ [-47])) := sq_some2 hc rfl
        rw [hc'] at hP
        refine ihL e _ _ _ Q he hb.2.1 (by omega) (by omega) (by rw [join_div (w := x) hv]; exact wi_nm _) (hP.sq2 rfl ?_)
        have F' := F.join (s := 47) (v := v) (by have a1 : hm 9 e = 2 * (6 - e) + 1 := rfl; omega) (by decide) (by decide) (by decide) (by decide)
        exact F'.wide (by have a1 : hm 9 e = 2 * (6 - e) + 1 := rfl; have a2 : hm 3 e = 2 * (6 - e) + 2 := rfl; omega)
      · refine ⟨fun _ h1 h2 => h1 ((lg_cmp_eq _ _).mpr h2), ?_⟩
        refine c_within ?_
        refine ⟨_, _, rfl, rfl, ?_⟩
        refine term_f S (by omega) ?_
        have h5 : (sq (pz tx ln f 9 e (sk tx ln p + 1)) (em (-47))).2 = none := by rw [sq_none1 hn]
        have h6 := hP.sq1 h5 (wi (if ((if (47 : Int32) = 42 then 1 else 0) : Int32) = 0 then (if (lg_cmp x.toInt64 0 : Int32) = 0 then 0 else v.toInt64 / x.toInt64) else v.toInt64 * x.toInt64)) p' e' (fun h => absurd h (by decide))
        rw [sq_none1 hn] at h6
        exact h6
    · rw [if_neg (by rw [hj]; simp [h42, h47])] at hP
      exact hP.1 [] v rfl FR.nil hv (fun h => absurd h (by decide))
theorem mlp_sl (S : hMod G R K n m t c) (V : TM I m t c bg ln tx) {L : Nat → Int32} {f : Nat} (ihE : ml_term G I J R K n m ln tx L f) (ihL : ml_sl G I J R K n m ln tx L f) : ml_sl G I J R K n m ln tx L (f + 1) := by
  intro e p D v Q he hp hf hD hv hP
  have hl := V.1
  have c2 : fm 2 e = 6 + 3 * (6 - e) + 2 := rfl
  rw [c2] at hD
  obtain ⟨D, rfl⟩ : ∃ D', D = D' + 1 := ⟨D - 1, by omega⟩
  have g1 := sk_ge (tx := tx) (ln := ln) (p := p)
  have g2 := sk_le (tx := tx) hp
  rw [pz, if_neg (by omega), if_pos (by omega), show 6 - 4 = 2 from rfl, show elm 2 = 3 from rfl] at hP
  have hj : jn 2 (lk tx ln p) = (decide (lk tx ln p = 43) || decide (lk tx ln p = 45)) := rfl
  refine wX12_sum_5 m t c S _ ?_
  rw [MH_at.2.1]
  refine ⟨fun _ => ?_, fun h => absurd rfl h⟩
  refine c_look S V hp ?_
  refine ⟨_, _, rfl, rfl, ?_⟩
  refine ⟨fun h43 => ?_, fun h43 => ?_⟩
  ·
    have hk := lk_lt (p := p) (tx := tx) (ln := ln) (by rw [h43]; decide)
    rw [if_pos (by rw [h43]; decide), h43] at hP
    refine c_look S V g2 ?_
    refine ⟨_, _, rfl, rfl, ?_⟩
    rw [sk_sk, lk_sk, h43]
    rintro _ rfl
    rw [MH_at.1, nI_1, MH_10]
    have hle := pz_le (tx := tx) (ln := ln) f 3 e (sk tx ln p + 1) (by omega)
    refine ihE e (sk tx ln p + 1) _ _ he (by omega) (by have : cm 3 = 2 := rfl; omega) (by have : fm 3 e = 6 + 3 * (6 - e) + 1 := rfl; omega) ⟨fun cc x hc F hx _ => ⟨_, _, rfl, rfl, ?_⟩, fun hn x p' e' _ => ⟨_, _, rfl, rfl, ?_⟩⟩
    · refine c_within ?_
      refine ⟨_, _, rfl, rfl, ?_⟩
      rw [if_pos rfl, if_neg (by decide), ← join_add v x]
      have hb := pz_ok (tx := tx) (ln := ln) f 3 e (sk tx ln p + 1) (pz tx ln f 3 e (sk tx ln p + 1)).1 cc (by omega) (by rw [← hc])
      have hc' : sq (pz tx ln f 3 e (sk tx ln p + 1)) (em (-43)) = ((pz tx ln f 3 e (sk tx ln p + 1)).1, some (cc ++ [-43])) := sq_some2 hc rfl
      rw [hc'] at hP
      refine ihL e _ _ _ Q he hb.2.1 (by omega) (by omega) (by rw [join_add v x]; exact wi_nm _) (hP.sq2 rfl ?_)
      have F' := F.join (s := 43) (v := v) (by have a1 : hm 3 e = 2 * (6 - e) + 2 := rfl; omega) (by decide) (by decide) (by decide) (by decide)
      exact F'.wide (by have a1 : hm 3 e = 2 * (6 - e) + 2 := rfl; have a2 : hm 2 e = 2 * (6 - e) + 3 := rfl; omega)
    · refine c_within ?_
      refine ⟨_, _, rfl, rfl, ?_⟩
      refine sum_f S (by omega) ?_
      have h5 : (sq (pz tx ln f 3 e (sk tx ln p + 1)) (em (-43))).2 = none := by rw [sq_none1 hn]
      have h6 := hP.sq1 h5 (wi (if ((if (43 : Int32) = 43 then 1 else 0) : Int32) = 0 then v.toInt64 - x.toInt64 else v.toInt64 + x.toInt64)) p' e' (fun h => absurd h (by decide))
      rw [sq_none1 hn] at h6
      exact h6
  · refine c_look S V g2 ?_
    refine ⟨_, _, rfl, rfl, ?_⟩
    rw [sk_sk, lk_sk]
    refine ⟨fun h45 => ?_, fun h45 => ?_⟩
    ·
      have hk := lk_lt (p := p) (tx := tx) (ln := ln) (by rw [h45]; decide)
      rw [if_pos (by rw [h45]; decide), h45] at hP
      refine c_look S V g2 ?_
      refine ⟨_, _, rfl, rfl, ?_⟩
      rw [sk_sk, lk_sk, h45]
      rintro _ rfl
      rw [MH_at.1, nI_1, MH_10]
      have hle := pz_le (tx := tx) (ln := ln) f 3 e (sk tx ln p + 1) (by omega)
      refine ihE e (sk tx ln p + 1) _ _ he (by omega) (by have : cm 3 = 2 := rfl; omega) (by have : fm 3 e = 6 + 3 * (6 - e) + 1 := rfl; omega) ⟨fun cc x hc F hx _ => ⟨_, _, rfl, rfl, ?_⟩, fun hn x p' e' _ => ⟨_, _, rfl, rfl, ?_⟩⟩
      · refine c_within ?_
        refine ⟨_, _, rfl, rfl, ?_⟩
        rw [if_pos (show (if (45 : Int32) = 43 then (1 : Int32) else 0) = 0 by decide), ← join_sub v x]
        have hb := pz_ok (tx := tx) (ln := ln) f 3 e (sk tx ln p + 1) (pz tx ln f 3 e (sk tx ln p + 1)).1 cc (by omega) (by rw [← hc])
        have hc' : sq (pz tx ln f 3 e (sk tx ln p + 1)) (em (-45)) = ((pz tx ln f 3 e (sk tx ln p + 1)).1, some (cc ++ [-45])) := sq_some2 hc rfl
        rw [hc'] at hP
        refine ihL e _ _ _ Q he hb.2.1 (by omega) (by omega) (by rw [join_sub v x]; exact wi_nm _) (hP.sq2 rfl ?_)
        have F' := F.join (s := 45) (v := v) (by have a1 : hm 3 e = 2 * (6 - e) + 2 := rfl; omega) (by decide) (by decide) (by decide) (by decide)
        exact F'.wide (by have a1 : hm 3 e = 2 * (6 - e) + 2 := rfl; have a2 : hm 2 e = 2 * (6 - e) + 3 := rfl; omega)
      · refine c_within ?_
        refine ⟨_, _, rfl, rfl, ?_⟩
        refine sum_f S (by omega) ?_
        have h5 : (sq (pz tx ln f 3 e (sk tx ln p + 1)) (em (-45))).2 = none := by rw [sq_none1 hn]
        have h6 := hP.sq1 h5 (wi (if ((if (45 : Int32) = 43 then 1 else 0) : Int32) = 0 then v.toInt64 - x.toInt64 else v.toInt64 + x.toInt64)) p' e' (fun h => absurd h (by decide))
        rw [sq_none1 hn] at h6
        exact h6
    · rw [if_neg (by rw [hj]; simp [h43, h45])] at hP
      exact hP.1 [] v rfl FR.nil hv (fun h => absurd h (by decide))
theorem mlp_c1 (S : hMod G R K n m t c) (V : TM I m t c bg ln tx) {L : Nat → Int32} {f : Nat} (ihS : ml_sum G I J R K n m ln tx L f) : ml_c1 G I J R K n m ln tx L (f + 1) := by
  intro e p D v Q he hp hf hD hP
  have c1 : cm 10 = 1 := rfl
  have c2 : fm 10 e = 6 + 3 * (6 - e) + 3 := rfl
  have c3 : cm 2 = 3 := rfl
  have c4 : fm 2 e = 6 + 3 * (6 - e) + 2 := rfl
  rw [c1] at hf; rw [c2] at hD
  obtain ⟨D, rfl⟩ : ∃ D', D = D' + 3 := ⟨D - 3, by omega⟩
  refine zC.of (by decide) (Nat.le_of_ble_eq_true rfl) ?_
  refine wX12_compares_0 m t c S _ _ ?_
  refine ⟨fun h => absurd h (by decide), fun _ => ?_⟩
  rw [MH_at.2.1]
  refine ⟨fun _ => ?_, fun h => absurd rfl h⟩
  exact cmp_tail S V hp hf (fun p' Q' r1 r2 r3 => ihS e p' _ Q' he r1 (by omega) (by omega) r3) hP
theorem mlp_c0 (S : hMod G R K n m t c) (V : TM I m t c bg ln tx) {L : Nat → Int32} {f : Nat} (hS : ml_sum G I J R K n m ln tx L (f + 1)) (ihS : ml_sum G I J R K n m ln tx L f) : ml_c0 G I J R K n m ln tx L (f + 1) := by
  intro e p D Q he hp hf hD hP
  have hl := V.1
  have c2 : fm 10 e = 6 + 3 * (6 - e) + 3 := rfl
  have c3 : cm 2 = 3 := rfl
  have c4 : fm 2 e = 6 + 3 * (6 - e) + 2 := rfl
  rw [c2] at hD
  obtain ⟨D, rfl⟩ : ∃ D', D = D' + 3 := ⟨D - 3, by omega⟩
  refine zC.of (by decide) (Nat.le_of_ble_eq_true rfl) ?_
  refine wX12_compares_0 m t c S _ _ ?_
  refine ⟨fun _ => ?_, fun h => absurd rfl h⟩
  refine hS e p _ _ he hp (by omega) (by omega) ⟨fun cc v hc F hv _ => ⟨_, _, rfl, rfl, ?_⟩, fun hn v p' e' _ => ⟨_, _, rfl, rfl, ?_⟩⟩
  · have hb := pz_ok (tx := tx) (ln := ln) (f + 1) 2 e p (pz tx ln (f + 1) 2 e p).1 cc hp (by rw [← hc])
    have h7 := hb.2.2 (by decide)
    rw [MH_at.2.1]
    refine ⟨fun _ => ?_, fun h => absurd rfl h⟩
    exact cmp_tail S V hb.2.1 (by omega) (fun p' Q' r1 r2 r3 => ihS e p' _ Q' he r1 (by omega) (by omega) r3) (hP.sq2 hc (F.wide (by have a1 : hm 2 e = 2 * (6 - e) + 3 := rfl; have a2 : hm 10 e = 2 * (6 - e) + 4 := rfl; omega)))
  · have hle := pz_le (tx := tx) (ln := ln) (f + 1) 2 e p hp
    rw [MH_at.2.1]
    exact ⟨fun h => absurd ((tk_m1 (by omega)).mp h) id, fun _ => hP.sq1 hn 0 p' e' (fun _ => Or.inl rfl)⟩
theorem mlp_unit (S : hMod G R K n m t c) (V : TM I m t c bg ln tx) {L : Nat → Int32} {f : Nat} (ihU : ml_unit G I J R K n m ln tx L f) (ihK : ml_k0 G I J R K n m ln tx L f) (ihC : ml_c0 G I J R K n m ln tx L f) : ml_unit G I J R K n m ln tx L (f + 1) := by
  intro e p D Q he hp hf hD hP
  have hl := V.1
  have c1 : cm 8 = 4 := rfl
  have c2 : fm 8 e = 6 + 3 * (6 - e) + 4 := rfl
  rw [c1] at hf; rw [c2] at hD
  obtain ⟨D, rfl⟩ : ∃ D', D = D' + 3 := ⟨D - 3, by omega⟩
  have g1 := sk_ge (tx := tx) (ln := ln) (p := p)
  have g2 := sk_le (tx := tx) hp
  rw [pz, if_neg (by omega), if_neg (by omega), if_pos (by omega)] at hP
  refine zC.of (by decide) (Nat.le_of_ble_eq_true rfl) ?_
  refine wX12_unit_0 m t c S ?_
  refine c_look S V hp ?_
  refine ⟨_, _, rfl, rfl, ?_⟩
  refine ⟨fun h33 => ?_, fun h33 => ?_⟩
  · rw [if_pos h33] at hP
    have hk := lk_lt (p := p) (tx := tx) (ln := ln) (by rw [h33]; decide)
    refine c_goesIn S he (fun h6 => ?_) (fun h6 => ?_)
    · rw [if_pos h6] at hP
      refine ⟨_, _, rfl, rfl, fun h => absurd h (by decide), fun _ => ?_⟩
      refine ihU (e + 1) (sk tx ln p + 1) _ _ (by omega) (by omega) (by omega) (by have : fm 8 (e + 1) = 6 + 3 * (6 - (e + 1)) + 4 := rfl; omega) ⟨fun cc v hc F hv hb => ⟨_, _, rfl, rfl, ?_⟩, fun hn v p' e' hb => ⟨_, _, rfl, rfl, ?_⟩⟩
      · rintro _ rfl
        rw [MH_at.2.2, nI_pred, MH_12]
        have F' : FR L (cc ++ [-33]) [] [1 - v] (hm 8 e) := (F.wide (by have a1 : hm 8 (e + 1) = 2 * (6 - (e + 1)) + 4 := rfl; have a2 : hm 8 e = 2 * (6 - e) + 4 := rfl; omega)).seq (FR.not.wide (by have a2 : hm 8 e = 2 * (6 - e) + 4 := rfl; omega))
        have hc' : sq (pz tx ln f 8 (e + 1) (sk tx ln p + 1)) (em (-33)) = ((pz tx ln f 8 (e + 1) (sk tx ln p + 1)).1, some (cc ++ [-33])) := sq_some2 hc rfl
        rw [hc'] at hP
        have h1 := hP.1 _ (1 - v) rfl F'
        rcases hb rfl with rfl | rfl
        · exact h1 (by decide) (fun _ => by decide)
        · exact h1 (by decide) (fun _ => by decide)
      · rintro _ rfl
        rw [MH_12]
        have hle := pz_le (tx := tx) (ln := ln) f 8 (e + 1) (sk tx ln p + 1) (by omega)
        exact hP.sq1 hn _ p' _ (fun _ => by split <;> simp)
    · rw [if_neg h6] at hP
      exact ⟨_, _, rfl, rfl, fun _ => hP.2 rfl 0 _ _ (fun _ => Or.inl rfl), fun h => absurd rfl h⟩
  · rw [if_neg h33] at hP
    refine ⟨fun h40 => ?_, fun h40 => ?_⟩
    · rw [if_pos h40] at hP
      have hk := lk_lt (p := p) (tx := tx) (ln := ln) (by rw [h40]; decide)
      refine c_goesIn S he (fun h6 => ?_) (fun h6 => ?_)
      · rw [if_pos h6] at hP
        refine ⟨_, _, rfl, rfl, fun h => absurd h (by decide), fun _ => ?_⟩
        refine ihK (e + 1) (sk tx ln p + 1) _ _ (by omega) (by omega) (by have : cm 0 = 6 := rfl; omega) (by have : fm 0 (e + 1) = 6 + 3 * (6 - (e + 1)) + 6 := rfl; omega) ⟨fun cc v hc F hv hb => ⟨_, _, rfl, rfl, ?_⟩, fun hn v p' e' hb => ⟨_, _, rfl, rfl, ?_⟩⟩
        · have hb2 := pz_ok (tx := tx) (ln := ln) f 0 (e + 1) (sk tx ln p + 1) (pz tx ln f 0 (e + 1) (sk tx ln p + 1)).1 cc (by omega) (by rw [← hc])
          have hP2 := hP.sq2 hc (F.wide (by have a1 : hm 0 (e + 1) = 2 * (6 - (e + 1)) + 6 := rfl; have a2 : hm 8 e = 2 * (6 - e) + 4 := rfl; omega))
          unfold acc at hP2
          refine c_takes S V hb2.2.1 (fun h => ?_) (fun h => ?_)
          · rw [if_pos h] at hP2
            refine ⟨_, _, rfl, rfl, fun h => absurd h (by decide), fun _ => ?_⟩
            rintro _ rfl
            rw [MH_at.2.2, nI_pred, MH_12]
            exact ⟨hb rfl, hP2.1 [] v rfl FR.nil hv (fun _ => hb rfl)⟩
          · rw [if_neg h] at hP2
            exact ⟨_, _, rfl, rfl, fun _ => hP2.2 rfl 0 _ _ (fun _ => Or.inl rfl), fun h => absurd rfl h⟩
        · have hle := pz_le (tx := tx) (ln := ln) f 0 (e + 1) (sk tx ln p + 1) (by omega)
          refine c_takes_f S (by omega) ?_
          refine ⟨_, _, rfl, rfl, ?_⟩
          exact ⟨fun _ => hP.sq1 hn 0 p' e' (fun _ => Or.inl rfl), fun h => absurd rfl h⟩
      · rw [if_neg h6] at hP
        exact ⟨_, _, rfl, rfl, fun _ => hP.2 rfl 0 _ _ (fun _ => Or.inl rfl), fun h => absurd rfl h⟩
    · rw [if_neg h40] at hP
      refine ihC e (sk tx ln p) _ _ he g2 (by omega) (by have : fm 10 e = 6 + 3 * (6 - e) + 3 := rfl; omega) ⟨fun cc v hc F hv hb => ⟨_, _, rfl, rfl, hb rfl, ?_⟩, fun hn v p' e' hb => ⟨_, _, rfl, rfl, hb rfl, ?_⟩⟩
      · exact hP.1 cc v hc F hv hb
      · exact hP.2 hn v p' e' hb
theorem mlp_p0 (S : hMod G R K n m t c) (V : TM I m t c bg ln tx) {L : Nat → Int32} {f : Nat} (ihE : ml_unit G I J R K n m ln tx L f) (ihL : ml_pl G I J R K n m ln tx L f) : ml_p0 G I J R K n m ln tx L (f + 1) := by
  intro e p D Q he hp hf hD hP
  have hl := V.1
  have c1 : cm 1 = 5 := rfl
  have c2 : fm 1 e = 6 + 3 * (6 - e) + 5 := rfl
  rw [c1] at hf; rw [c2] at hD
  obtain ⟨D, rfl⟩ : ∃ D', D = D' + 1 := ⟨D - 1, by omega⟩
  rw [pz, if_pos (by omega)] at hP
  rw [show elm 1 = 8 from rfl] at hP
  refine zC.of (by decide) (Nat.le_of_ble_eq_true rfl) ?_
  refine wX12_part_0 m t c S _ _ ?_
  refine ⟨fun _ => ?_, fun h => absurd rfl h⟩
  refine ihE e p D _ he hp (by have : cm 8 = 4 := rfl; omega) (by have : fm 8 e = 6 + 3 * (6 - e) + 4 := rfl; omega) ⟨fun cc w hc F hv hb => ⟨_, _, rfl, rfl, ?_⟩, fun hn w p' e' hb => ⟨_, _, rfl, rfl, ?_⟩⟩
  · have hb2 := pz_ok (tx := tx) (ln := ln) f 8 e p (pz tx ln f 8 e p).1 cc hp (by rw [← hc])
    have h7 := hb2.2.2 (by decide)
    exact ihL e _ D w _ _ Q he hb2.2.1 (by omega) (by have : fm 1 e = 6 + 3 * (6 - e) + 5 := rfl; omega) (hb rfl) (hP.sq2 hc (F.wide (by have a1 : hm 8 e = 2 * (6 - e) + 4 := rfl; have a2 : hm 1 e = 2 * (6 - e) + 5 := rfl; omega)))
  · have hle := pz_le (tx := tx) (ln := ln) f 8 e p hp
    exact part_f S (by omega) (hb rfl) (hP.sq1 hn w p' e' hb)
theorem mlp_p1 (S : hMod G R K n m t c) (V : TM I m t c bg ln tx) {L : Nat → Int32} {f : Nat} (ihE : ml_c1 G I J R K n m ln tx L f) (ihL : ml_pl G I J R K n m ln tx L f) : ml_p1 G I J R K n m ln tx L (f + 1) := by
  intro e p D v Q he hp hf hD hP
  have hl := V.1
  have c1 : cm 12 = 2 := rfl
  have c2 : fm 12 e = 6 + 3 * (6 - e) + 5 := rfl
  rw [c1] at hf; rw [c2] at hD
  obtain ⟨D, rfl⟩ : ∃ D', D = D' + 1 := ⟨D - 1, by omega⟩
  rw [pz, if_neg (by omega), if_neg (by omega), if_neg (by omega), if_neg (by omega), if_neg (by omega), if_neg (by omega)] at hP
  skip
  refine zC.of (by decide) (Nat.le_of_ble_eq_true rfl) ?_
  refine wX12_part_0 m t c S _ _ ?_
  refine ⟨fun h => absurd h (by decide), fun _ => ?_⟩
  refine ihE e p D v _ he hp (by have : cm 10 = 1 := rfl; omega) (by have : fm 10 e = 6 + 3 * (6 - e) + 3 := rfl; omega) ⟨fun cc w hc F hv hb => ⟨_, _, rfl, rfl, ?_⟩, fun hn w p' e' hb => ⟨_, _, rfl, rfl, ?_⟩⟩
  · have hb2 := pz_ok (tx := tx) (ln := ln) f 10 e p (pz tx ln f 10 e p).1 cc hp (by rw [← hc])
    have h7 := hb2.2.2 (by decide)
    exact ihL e _ D w _ _ Q he hb2.2.1 (by omega) (by have : fm 1 e = 6 + 3 * (6 - e) + 5 := rfl; omega) (hb rfl) (hP.sq2 hc (F.wide (by have a1 : hm 10 e = 2 * (6 - e) + 4 := rfl; have a2 : hm 12 e = 2 * (6 - e) + 5 := rfl; omega)))
  · have hle := pz_le (tx := tx) (ln := ln) f 10 e p hp
    exact part_f S (by omega) (hb rfl) (hP.sq1 hn w p' e' hb)
theorem mlp_k0 (S : hMod G R K n m t c) (V : TM I m t c bg ln tx) {L : Nat → Int32} {f : Nat} (ihE : ml_p0 G I J R K n m ln tx L f) (ihL : ml_kl G I J R K n m ln tx L f) : ml_k0 G I J R K n m ln tx L (f + 1) := by
  intro e p D Q he hp hf hD hP
  have hl := V.1
  have c1 : cm 0 = 6 := rfl
  have c2 : fm 0 e = 6 + 3 * (6 - e) + 6 := rfl
  rw [c1] at hf; rw [c2] at hD
  obtain ⟨D, rfl⟩ : ∃ D', D = D' + 1 := ⟨D - 1, by omega⟩
  rw [pz, if_pos (by omega)] at hP
  rw [show elm 0 = 1 from rfl] at hP
  refine zC.of (by decide) (Nat.le_of_ble_eq_true rfl) ?_
  refine wX12_condition_0 m t c S _ _ ?_
  skip
  refine ihE e p D _ he hp (by have : cm 1 = 5 := rfl; omega) (by have : fm 1 e = 6 + 3 * (6 - e) + 5 := rfl; omega) ⟨fun cc w hc F hv hb => ⟨_, _, rfl, rfl, ?_⟩, fun hn w p' e' hb => ⟨_, _, rfl, rfl, ?_⟩⟩
  · have hb2 := pz_ok (tx := tx) (ln := ln) f 1 e p (pz tx ln f 1 e p).1 cc hp (by rw [← hc])
    have h7 := hb2.2.2 (by decide)
    exact ihL e _ D w _ _ Q he hb2.2.1 (by omega) (by have : fm 0 e = 6 + 3 * (6 - e) + 6 := rfl; omega) (hb rfl) (hP.sq2 hc (F.wide (by have a1 : hm 1 e = 2 * (6 - e) + 5 := rfl; have a2 : hm 0 e = 2 * (6 - e) + 6 := rfl; omega)))
  · have hle := pz_le (tx := tx) (ln := ln) f 1 e p hp
    exact condition_f S (by omega) (hb rfl) (hP.sq1 hn w p' e' hb)
theorem mlp_k1 (S : hMod G R K n m t c) (V : TM I m t c bg ln tx) {L : Nat → Int32} {f : Nat} (ihE : ml_p1 G I J R K n m ln tx L f) (ihL : ml_kl G I J R K n m ln tx L f) : ml_k1 G I J R K n m ln tx L (f + 1) := by
  intro e p D v Q he hp hf hD hP
  have hl := V.1
  have c1 : cm 11 = 3 := rfl
  have c2 : fm 11 e = 6 + 3 * (6 - e) + 6 := rfl
  rw [c1] at hf; rw [c2] at hD
  obtain ⟨D, rfl⟩ : ∃ D', D = D' + 1 := ⟨D - 1, by omega⟩
  rw [pz, if_neg (by omega), if_neg (by omega), if_neg (by omega), if_neg (by omega), if_neg (by omega), if_pos (by omega)] at hP
  skip
  refine zC.of (by decide) (Nat.le_of_ble_eq_true rfl) ?_
  refine wX12_condition_0 m t c S _ _ ?_
  skip
  refine ihE e p D v _ he hp (by have : cm 12 = 2 := rfl; omega) (by have : fm 12 e = 6 + 3 * (6 - e) + 5 := rfl; omega) ⟨fun cc w hc F hv hb => ⟨_, _, rfl, rfl, ?_⟩, fun hn w p' e' hb => ⟨_, _, rfl, rfl, ?_⟩⟩
  · have hb2 := pz_ok (tx := tx) (ln := ln) f 12 e p (pz tx ln f 12 e p).1 cc hp (by rw [← hc])
    have h7 := hb2.2.2 (by decide)
    exact ihL e _ D w _ _ Q he hb2.2.1 (by omega) (by have : fm 0 e = 6 + 3 * (6 - e) + 6 := rfl; omega) (hb rfl) (hP.sq2 hc (F.wide (by have a1 : hm 12 e = 2 * (6 - e) + 5 := rfl; have a2 : hm 11 e = 2 * (6 - e) + 6 := rfl; omega)))
  · have hle := pz_le (tx := tx) (ln := ln) f 12 e p hp
    exact condition_f S (by omega) (hb rfl) (hP.sq1 hn w p' e' hb)
theorem mlp_pl (S : hMod G R K n m t c) (V : TM I m t c bg ln tx) {L : Nat → Int32} {f : Nat} (ihE : ml_unit G I J R K n m ln tx L f) (ihL : ml_pl G I J R K n m ln tx L f) : ml_pl G I J R K n m ln tx L (f + 1) := by
  intro e p D v l1 l2 Q he hp hf hD hv hP
  have hl := V.1
  have c2 : fm 1 e = 6 + 3 * (6 - e) + 5 := rfl
  rw [c2] at hD
  obtain ⟨D, rfl⟩ : ∃ D', D = D' + 1 := ⟨D - 1, by omega⟩
  have g1 := sk_ge (tx := tx) (ln := ln) (p := p)
  have g2 := sk_le (tx := tx) hp
  have hvm : v ≠ Int32.minValue := by rcases hv with h | h <;> rw [h] <;> decide
  rw [pz, if_neg (by omega), if_pos (by omega), show 5 - 4 = 1 from rfl, show elm 1 = 8 from rfl] at hP
  have hj : jn 1 (lk tx ln p) = decide (lk tx ln p = 38) := rfl
  refine wX12_part_18 m t c S _ _ _ ?_
  rw [MH_at.2.1]
  refine ⟨fun _ => ?_, fun h => absurd rfl h⟩
  refine c_look S V hp ?_
  refine ⟨_, _, rfl, rfl, ?_⟩
  refine ⟨fun hs => ?_, fun hs => ?_⟩
  · have hk := lk_lt (p := p) (tx := tx) (ln := ln) (by rw [hs]; decide)
    rw [if_pos (by rw [hs]; decide), hs] at hP
    rintro _ rfl
    rw [MH_at.1, nI_1, MH_10]
    have hle := pz_le (tx := tx) (ln := ln) f 8 e (sk tx ln p + 1) (by omega)
    refine ihE e (sk tx ln p + 1) _ _ he (by omega) (by have : cm 8 = 4 := rfl; omega) (by have : fm 8 e = 6 + 3 * (6 - e) + 4 := rfl; omega) ⟨fun cc x hc F hx hb => ⟨_, _, rfl, rfl, ?_⟩, fun hn x p' e' hb => ⟨_, _, rfl, rfl, ?_⟩⟩
    · rw [← join_and hv (hb rfl)]
      have hb2 := pz_ok (tx := tx) (ln := ln) f 8 e (sk tx ln p + 1) (pz tx ln f 8 e (sk tx ln p + 1)).1 cc (by omega) (by rw [← hc])
      have hc' : sq (pz tx ln f 8 e (sk tx ln p + 1)) (em (-38)) = ((pz tx ln f 8 e (sk tx ln p + 1)).1, some (cc ++ [-38])) := sq_some2 hc rfl
      rw [hc'] at hP
      refine ihL e _ _ _ _ _ Q he hb2.2.1 (by omega) (by omega) (by rw [join_and hv (hb rfl)]; exact zOrIte (Or.inl rfl) (zOrIte (Or.inl rfl) (Or.inr rfl))) (hP.sq2 rfl ?_)
      have F' := F.join (s := 38) (v := v) (by have a1 : hm 8 e = 2 * (6 - e) + 4 := rfl; omega) (by decide) (by decide) (by decide) (by decide)
      exact F'.wide (by have a1 : hm 8 e = 2 * (6 - e) + 4 := rfl; have a2 : hm 1 e = 2 * (6 - e) + 5 := rfl; omega)
    · have h5 : (sq (pz tx ln f 8 e (sk tx ln p + 1)) (em (-38))).2 = none := by rw [sq_none1 hn]
      rw [← join_and hv (hb rfl)]
      have h7 : joinA 38 v x = 0 ∨ joinA 38 v x = 1 := by rw [join_and hv (hb rfl)]; exact zOrIte (Or.inl rfl) (zOrIte (Or.inl rfl) (Or.inr rfl))
      have h6 := hP.sq1 h5 (joinA 38 v x) p' e' (fun _ => h7)
      rw [sq_none1 hn] at h6
      exact part_f S (by omega) h7 h6
  · rw [if_neg (by rw [hj]; simp [hs])] at hP
    exact ⟨hv, hP.1 [] v rfl FR.nil hvm (fun _ => hv)⟩
theorem mlp_kl (S : hMod G R K n m t c) (V : TM I m t c bg ln tx) {L : Nat → Int32} {f : Nat} (ihE : ml_p0 G I J R K n m ln tx L f) (ihL : ml_kl G I J R K n m ln tx L f) : ml_kl G I J R K n m ln tx L (f + 1) := by
  intro e p D v l1 l2 Q he hp hf hD hv hP
  have hl := V.1
  have c2 : fm 0 e = 6 + 3 * (6 - e) + 6 := rfl
  rw [c2] at hD
  obtain ⟨D, rfl⟩ : ∃ D', D = D' + 1 := ⟨D - 1, by omega⟩
  have g1 := sk_ge (tx := tx) (ln := ln) (p := p)
  have g2 := sk_le (tx := tx) hp
  have hvm : v ≠ Int32.minValue := by rcases hv with h | h <;> rw [h] <;> decide
  rw [pz, if_neg (by omega), if_pos (by omega), show 4 - 4 = 0 from rfl, show elm 0 = 1 from rfl] at hP
  have hj : jn 0 (lk tx ln p) = decide (lk tx ln p = 124) := rfl
  refine wX12_condition_7 m t c S _ _ _ ?_
  rw [MH_at.2.1]
  refine ⟨fun _ => ?_, fun h => absurd rfl h⟩
  refine c_look S V hp ?_
  refine ⟨_, _, rfl, rfl, ?_⟩
  refine ⟨fun hs => ?_, fun hs => ?_⟩
  · have hk := lk_lt (p := p) (tx := tx) (ln := ln) (by rw [hs]; decide)
    rw [if_pos (by rw [hs]; decide), hs] at hP
    rintro _ rfl
    rw [MH_at.1, nI_1, MH_10]
    have hle := pz_le (tx := tx) (ln := ln) f 1 e (sk tx ln p + 1) (by omega)
    refine ihE e (sk tx ln p + 1) _ _ he (by omega) (by have : cm 1 = 5 := rfl; omega) (by have : fm 1 e = 6 + 3 * (6 - e) + 5 := rfl; omega) ⟨fun cc x hc F hx hb => ⟨_, _, rfl, rfl, ?_⟩, fun hn x p' e' hb => ⟨_, _, rfl, rfl, ?_⟩⟩
    · rw [← join_or hv (hb rfl)]
      have hb2 := pz_ok (tx := tx) (ln := ln) f 1 e (sk tx ln p + 1) (pz tx ln f 1 e (sk tx ln p + 1)).1 cc (by omega) (by rw [← hc])
      have hc' : sq (pz tx ln f 1 e (sk tx ln p + 1)) (em (-124)) = ((pz tx ln f 1 e (sk tx ln p + 1)).1, some (cc ++ [-124])) := sq_some2 hc rfl
      rw [hc'] at hP
      refine ihL e _ _ _ _ _ Q he hb2.2.1 (by omega) (by omega) (by rw [join_or hv (hb rfl)]; exact zOrIte (zOrIte (Or.inl rfl) (Or.inr rfl)) (Or.inr rfl)) (hP.sq2 rfl ?_)
      have F' := F.join (s := 124) (v := v) (by have a1 : hm 1 e = 2 * (6 - e) + 5 := rfl; omega) (by decide) (by decide) (by decide) (by decide)
      exact F'.wide (by have a1 : hm 1 e = 2 * (6 - e) + 5 := rfl; have a2 : hm 0 e = 2 * (6 - e) + 6 := rfl; omega)
    · have h5 : (sq (pz tx ln f 1 e (sk tx ln p + 1)) (em (-124))).2 = none := by rw [sq_none1 hn]
      rw [← join_or hv (hb rfl)]
      have h7 : joinA 124 v x = 0 ∨ joinA 124 v x = 1 := by rw [join_or hv (hb rfl)]; exact zOrIte (zOrIte (Or.inl rfl) (Or.inr rfl)) (Or.inr rfl)
      have h6 := hP.sq1 h5 (joinA 124 v x) p' e' (fun _ => h7)
      rw [sq_none1 hn] at h6
      exact condition_f S (by omega) h7 h6
  · rw [if_neg (by rw [hj]; simp [hs])] at hP
    exact ⟨hv, hP.1 [] v rfl FR.nil hvm (fun _ => hv)⟩
theorem ml_all (S : hMod G R K n m t c) (V : TM I m t c bg ln tx) {L : Nat → Int32} (hL : L = (fun k => I (m + 4) (chrA 3 k).toNatClampNeg)) (hM : ∀ k, k < 6 → L k ≠ Int32.minValue) : ∀ f : Nat, ml_atom G I J R K n m ln tx L f ∧ ml_term G I J R K n m ln tx L f ∧ ml_sum G I J R K n m ln tx L f ∧ ml_tl G I J R K n m ln tx L f ∧ ml_sl G I J R K n m ln tx L f ∧ ml_c1 G I J R K n m ln tx L f ∧ ml_c0 G I J R K n m ln tx L f ∧ ml_unit G I J R K n m ln tx L f ∧ ml_p0 G I J R K n m ln tx L f ∧ ml_p1 G I J R K n m ln tx L f ∧ ml_pl G I J R K n m ln tx L f ∧ ml_k0 G I J R K n m ln tx L f ∧ ml_k1 G I J R K n m ln tx L f ∧ ml_kl G I J R K n m ln tx L f := by
  intro f
  induction f with
  | zero =>
    refine ⟨?_, ?_, ?_, ?_, ?_, ?_, ?_, ?_, ?_, ?_, ?_, ?_, ?_, ?_⟩
    · intro e p D Q he hp hf; have c : cm 9 = 1 := rfl; omega
    · intro e p D Q he hp hf; have c : cm 3 = 2 := rfl; omega
    · intro e p D Q he hp hf; have c : cm 2 = 3 := rfl; omega
    · intro e p D v Q he hp hf; omega
    · intro e p D v Q he hp hf; omega
    · intro e p D v Q he hp hf; have c : cm 10 = 1 := rfl; omega
    · intro e p D Q he hp hf; omega
    · intro e p D Q he hp hf; have c : cm 8 = 4 := rfl; omega
    · intro e p D Q he hp hf; have c : cm 1 = 5 := rfl; omega
    · intro e p D v Q he hp hf; have c : cm 12 = 2 := rfl; omega
    · intro e p D v l1 l2 Q he hp hf; omega
    · intro e p D Q he hp hf; have c : cm 0 = 6 := rfl; omega
    · intro e p D v Q he hp hf; have c : cm 11 = 3 := rfl; omega
    · intro e p D v l1 l2 Q he hp hf; omega
  | succ f ih =>
    obtain ⟨a1, a2, a3, a4, a5, a6, a7, a8, a9, a10, a11, a12, a13, a14⟩ := ih
    have b3 := mlp_sum S V a2 a5
    exact ⟨mlp_atom S V hL hM a3, mlp_term S V a1 a4, b3, mlp_tl S V a1 a4, mlp_sl S V a2 a5, mlp_c1 S V a3, mlp_c0 S V b3 a3, mlp_unit S V a8 a12 a7, mlp_p0 S V a8 a11, mlp_p1 S V a6 a11, mlp_pl S V a8 a11, mlp_k0 S V a9 a14, mlp_k1 S V a10 a14, mlp_kl S V a9 a14⟩
end
