/-! VILLAGES: the model's reader, clause by clause -/
def mD (I : Nat → Nat → Int32) (m : Nat) (s : Vt × Bool) : Prop := I m 28 = nI s.1.1 ∧ I m 29 = nI s.1.2.2.1 ∧ I m 31 = (if s.2 = true then 1 else 0) ∧ (∀ f, f < s.1.1 → I (m + 8) (2 * f) = nI (s.1.2.1 (2 * f)) ∧ I (m + 8) (2 * f + 1) = nI (s.1.2.1 (2 * f + 1))) ∧ (∀ k, k < 3 * s.1.2.2.1 → I (m + 10) k = nI (s.1.2.2.2.1 k)) ∧ I (m + 6) 0 = nI s.1.2.2.2.2.1 ∧ I (m + 6) 1 = nI s.1.2.2.2.2.2
/-- nothing changed but the village being read -/
def mFv (m : Nat) (I I' : Nat → Nat → Int32) : Prop := ∀ b k, ¬ (b = m ∧ (k = 28 ∨ k = 29 ∨ k = 31)) → b ≠ m + 6 → b ≠ m + 8 → b ≠ m + 10 → I' b k = I b k
theorem mayV (c a b d : Int32) : ((if c = 115 then (if a = 0 then 1 else (if c = 102 then (if b < 6 then 1 else (if c = 119 then (if 9 ≤ d then 0 else 1) else 0)) else (if c = 119 then (if 9 ≤ d then 0 else 1) else 0))) else (if c = 102 then (if b < 6 then 1 else (if c = 119 then (if 9 ≤ d then 0 else 1) else 0)) else (if c = 119 then (if 9 ≤ d then 0 else 1) else 0))) : Int32) = (if (c = 115 ∧ a = 0) ∨ (c = 102 ∧ b < 6) ∨ (c = 119 ∧ ¬ 9 ≤ d) then 1 else 0) := by
  by_cases h1 : c = 115
  · subst h1
    by_cases ha : a = 0
    · simp [ha]
    · simp [ha]
  by_cases h2 : c = 102
  · subst h2
    by_cases hb : b < 6
    · simp [hb]
    · simp [hb]
  by_cases h3 : c = 119
  · subst h3
    by_cases hd : 9 ≤ d
    · simp [hd]
    · simp [hd]
  simp [h1, h2, h3]
section
variable {G : zG} {d : Nat} {I : Nat → Nat → Int32} {J : Nat → Nat → Int64} {R : Nat → Nat → Option Nat} {K : Nat → Nat × Nat} {n : Nat} {m t c bg ln p : Nat} {tx : Nat → Nat} {e : Int32} {s : Vt × Bool} {Q : Option Value → zH → Prop}
theorem mFv.tm {I' : Nat → Nat → Int32} (F : mFv m I I') (V : TM I m t c bg ln tx) (h1 : t = m + 1) : TM I' m t c bg ln tx := V.fr (F m 8 (by omega) (by omega) (by omega) (by omega)) (F m 9 (by omega) (by omega) (by omega) (by omega)) (funext fun k => F t k (by omega) (by omega) (by omega) (by omega))
theorem c_mclause (S : hMod G R K n m t c) (ht : t = m + 1) (V : TM I m t c bg ln tx) (hp : p ≤ ln) (D : mD I m s) (O : okD s) (h1 : ∀ I' s', (vcP tx ln p s).2 = some s' → mFv m I I' → mD I' m s' → Q none (MH I' m (vcP tx ln p s).1 (-1) e, J, R, K, n)) (h0 : ∀ I' p', (vcP tx ln p s).2 = none → mFv m I I' → Q none (MH I' m p' (nI (vcP tx ln p s).1) e, J, R, K, n)) : zC G (d + 7) mX12_readClause 0 0 [.ref m] (MH I m p (-1) e, J, R, K, n) Q := by
  have a1 := sk_le (tx := tx) hp
  have o6 := O.1.1
  have o9 := O.2.1
  obtain ⟨d1, d2, d3, d4, d5, d6, d7⟩ := D
  refine zC.of (by decide) (Nat.le_of_ble_eq_true rfl) ?_
  refine wX12_readClause_0 m t c S ?_
  refine c_look S V hp ?_
  refine ⟨_, _, rfl, rfl, ?_⟩
  rw [mayV, MH_m (by omega), MH_m (by omega), MH_m (by omega), d1, d2, d3]
  have hP : ((lk tx ln p = 115 ∧ (if s.2 = true then 1 else 0 : Int32) = 0) ∨ (lk tx ln p = 102 ∧ nI s.1.1 < (6 : Int32)) ∨ (lk tx ln p = 119 ∧ ¬ (9 : Int32) ≤ nI s.1.2.2.1)) ↔ ((lk tx ln p = 115 ∧ (if s.2 = true then 1 else 0 : Int32) = 0) ∨ (lk tx ln p = 102 ∧ s.1.1 < 6) ∨ (lk tx ln p = 119 ∧ ¬ 9 ≤ s.1.2.2.1)) := by
    rw [show (6 : Int32) = nI 6 from rfl, show (9 : Int32) = nI 9 from rfl, tk_lt (by omega) (by omega), tk_le (by omega) (by omega)]
  have bad : ¬ ((lk tx ln p = 115 ∧ (if s.2 = true then 1 else 0 : Int32) = 0) ∨ (lk tx ln p = 102 ∧ s.1.1 < 6) ∨ (lk tx ln p = 119 ∧ ¬ 9 ≤ s.1.2.2.1)) → vcP tx ln p s = (sk tx ln p, none) := by
    intro h
    unfold vcP
    split
    · rename_i hc
      rw [if_pos]
      cases hs : s.2 with
      | true => rfl
      | false => exact absurd (Or.inl ⟨hc, by rw [hs]; rfl⟩) h
    split
    · rename_i hc
      rw [if_pos]
      exact Nat.le_of_not_lt (fun h2 => h (Or.inr (Or.inl ⟨hc, h2⟩)))
    split
    · rename_i hc
      rw [if_pos]
      exact Classical.byContradiction (fun h2 => h (Or.inr (Or.inr ⟨hc, h2⟩)))
    · rfl
  by_cases hm : (lk tx ln p = 115 ∧ (if s.2 = true then 1 else 0 : Int32) = 0) ∨ (lk tx ln p = 102 ∧ s.1.1 < 6) ∨ (lk tx ln p = 119 ∧ ¬ 9 ≤ s.1.2.2.1)
  case neg =>
    rw [if_neg (fun h => hm (hP.mp h))]
    refine ⟨fun _ => ?_, fun h => absurd rfl h⟩
    refine c_fails S ?_
    refine ⟨_, _, rfl, rfl, ?_⟩
    have := h0 I (sk tx ln p) (by rw [bad hm]) (fun _ _ _ _ _ _ => rfl)
    rw [bad hm] at this
    exact this
  rw [if_pos (hP.mpr hm)]
  refine ⟨fun h => absurd h (by decide), fun _ => ?_⟩
  intro I3 q3
  rw [MH_at.1, nI_1, MH_10] at q3
  subst q3
  have nn : lk tx ln p ≠ -1 := by
    rcases hm with ⟨h, -⟩ | ⟨h, -⟩ | ⟨h, -⟩ <;> rw [h] <;> decide
  have l1 := lk_lt nn
  unfold vcP at h1 h0
  refine ⟨fun hc => ?_, fun hc => ⟨fun hc2 => ?_, fun hc2 => ?_⟩⟩
  · have hs : s.2 = false := by
      rcases hm with ⟨-, h⟩ | ⟨h, -⟩ | ⟨h, -⟩
      · cases hs : s.2 with
        | true => rw [hs] at h; exact absurd h (by decide)
        | false => rfl
      · rw [hc] at h; exact absurd h (by decide)
      · rw [hc] at h; exact absurd h (by decide)
    rw [if_pos hc, hs, if_neg (by decide)] at h1 h0
    intro I4 q4
    rw [MH_k (by omega)] at q4
    subst q4
    rw [hc]
    have V4 : TM (zU I m 31 1) m t c bg ln tx := V.fr (zU_ne (by omega)) (zU_ne (by omega)) (zU_off (by omega))
    refine c_mitems (i := 0) (r := 0) (by omega) S (Mod_12 S) (by decide) (by omega) (by omega) (by omega) V4 (by omega) (fun I5 g hg F5 g5 => ⟨_, rfl, rfl, ?_⟩) (fun I5 p' hg F5 => ⟨_, rfl, rfl, ?_⟩)
    · have Fa : ∀ b k, ¬ (b = m ∧ k = 31) → b ≠ m + 6 → I5 b k = I b k := fun b k g1 g2 => by rw [F5 b k (by omega), zU_ne g1]
      refine h1 I5 _ (by rw [hg]; rfl) (fun b k g1 g2 _ _ => Fa b k (by omega) g2) ⟨?_, ?_, ?_, ?_, ?_, ?_, ?_⟩
      · rw [Fa m 28 (by omega) (by omega)]; exact d1
      · rw [Fa m 29 (by omega) (by omega)]; exact d2
      · rw [F5 m 31 (by omega), zU_self]; rfl
      · intro f hf
        rw [Fa (m + 8) _ (by omega) (by omega), Fa (m + 8) _ (by omega) (by omega)]
        exact d4 f hf
      · intro k hk
        rw [Fa (m + 10) k (by omega) (by omega)]
        exact d5 k hk
      · exact g5 0 (by decide)
      · exact g5 1 (by decide)
    · exact h0 I5 p' (by rw [hg]; rfl) (fun b k g1 g2 _ _ => by rw [F5 b k (by omega), zU_ne (by omega)])
  · have h6 : s.1.1 < 6 := by
      rcases hm with ⟨h, -⟩ | ⟨-, h⟩ | ⟨h, -⟩
      · exact absurd h hc
      · exact h
      · rw [hc2] at h; exact absurd h (by decide)
    rw [if_neg hc, if_pos hc2, if_neg (show ¬ 6 ≤ s.1.1 by omega)] at h1 h0
    intro I4 q4
    rw [MH_m (by omega), d1, nI_1, MH_k (by omega)] at q4
    subst q4
    rw [hc2, MH_m (by omega), zU_self, show (1 : Int32) = nI 1 from rfl, tk_sub (by omega), Nat.add_sub_cancel, show (2 * nI s.1.1 : Int32) = nI (2 * s.1.1) by rw [show (2 : Int32) = nI 2 from rfl, pk_mul]]
    have V4 : TM (zU I m 28 (nI (s.1.1 + 1))) m t c bg ln tx := V.fr (zU_ne (by omega)) (zU_ne (by omega)) (zU_off (by omega))
    refine c_mitems (i := 1) (r := 2 * s.1.1) (by omega) S (Mod_16 S) (by have := lenV.2.1; omega) (by omega) (by omega) (by omega) V4 (by omega) (fun I5 g hg F5 g5 => ⟨_, rfl, rfl, ?_⟩) (fun I5 p' hg F5 => ⟨_, rfl, rfl, ?_⟩)
    · have Fa : ∀ b k, ¬ (b = m ∧ k = 28) → ¬ (b = m + 8 ∧ 2 * s.1.1 ≤ k) → I5 b k = I b k := fun b k g1 g2 => by rw [F5 b k (by omega), zU_ne g1]
      refine h1 I5 _ (by rw [hg]; rfl) (fun b k g1 _ g2 _ => Fa b k (by omega) (by omega)) ⟨?_, ?_, ?_, ?_, ?_, ?_, ?_⟩
      · rw [F5 m 28 (by omega), zU_self]
      · rw [Fa m 29 (by omega) (by omega)]; exact d2
      · rw [Fa m 31 (by omega) (by omega)]; exact d3
      · intro f hf
        replace hf : f < s.1.1 + 1 := hf
        show I5 (m + 8) (2 * f) = nI (up (up s.1.2.1 (2 * s.1.1) (g 0)) (2 * s.1.1 + 1) (g 1) (2 * f)) ∧ I5 (m + 8) (2 * f + 1) = nI (up (up s.1.2.1 (2 * s.1.1) (g 0)) (2 * s.1.1 + 1) (g 1) (2 * f + 1))
        by_cases ef : f = s.1.1
        · rw [ef, up_at, up_ne (by omega), up_at]
          exact ⟨g5 0 (by decide), g5 1 (by decide)⟩
        · rw [up_ne (by omega), up_ne (by omega), up_ne (by omega), up_ne (by omega), Fa (m + 8) _ (by omega) (by omega), Fa (m + 8) _ (by omega) (by omega)]
          exact d4 f (by omega)
      · intro k hk
        rw [Fa (m + 10) k (by omega) (by omega)]
        exact d5 k hk
      · rw [Fa (m + 6) 0 (by omega) (by omega)]; exact d6
      · rw [Fa (m + 6) 1 (by omega) (by omega)]; exact d7
    · exact h0 I5 p' (by rw [hg]; rfl) (fun b k g1 _ g2 _ => by rw [F5 b k (by omega), zU_ne (by omega)])
  · have hc3 : lk tx ln p = 119 ∧ ¬ 9 ≤ s.1.2.2.1 := by
      rcases hm with ⟨h, -⟩ | ⟨h, -⟩ | h
      · exact absurd h hc
      · exact absurd h hc2
      · exact h
    obtain ⟨hc3, h9⟩ := hc3
    rw [if_neg hc, if_neg hc2, if_pos hc3, if_neg h9] at h1 h0
    intro I4 q4
    rw [MH_m (by omega), d2, nI_1, MH_k (by omega)] at q4
    subst q4
    rw [hc3, MH_m (by omega), zU_self, show (1 : Int32) = nI 1 from rfl, tk_sub (by omega), Nat.add_sub_cancel, show (3 * nI s.1.2.2.1 : Int32) = nI (3 * s.1.2.2.1) by rw [show (3 : Int32) = nI 3 from rfl, pk_mul]]
    have V4 : TM (zU I m 29 (nI (s.1.2.2.1 + 1))) m t c bg ln tx := V.fr (zU_ne (by omega)) (zU_ne (by omega)) (zU_off (by omega))
    refine c_mitems (i := 2) (r := 3 * s.1.2.2.1) (by omega) S (Mod_20 S) (by have := lenV.2.2; omega) (by omega) (by omega) (by omega) V4 (by omega) (fun I5 g hg F5 g5 => ⟨_, rfl, rfl, ?_⟩) (fun I5 p' hg F5 => ⟨_, rfl, rfl, ?_⟩)
    · have Fa : ∀ b k, ¬ (b = m ∧ k = 29) → ¬ (b = m + 10 ∧ 3 * s.1.2.2.1 ≤ k) → I5 b k = I b k := fun b k g1 g2 => by rw [F5 b k (by omega), zU_ne g1]
      refine h1 I5 _ (by rw [hg]; rfl) (fun b k g1 _ _ g2 => Fa b k (by omega) (by omega)) ⟨?_, ?_, ?_, ?_, ?_, ?_, ?_⟩
      · rw [Fa m 28 (by omega) (by omega)]; exact d1
      · rw [F5 m 29 (by omega), zU_self]
      · rw [Fa m 31 (by omega) (by omega)]; exact d3
      · intro f hf
        rw [Fa (m + 8) _ (by omega) (by omega), Fa (m + 8) _ (by omega) (by omega)]
        exact d4 f hf
      · intro k hk
        replace hk : k < 3 * (s.1.2.2.1 + 1) := hk
        show I5 (m + 10) k = nI (up (up (up s.1.2.2.2.1 (3 * s.1.2.2.1) (g 0)) (3 * s.1.2.2.1 + 1) (g 1)) (3 * s.1.2.2.1 + 2) (g 2) k)
        by_cases k0 : k = 3 * s.1.2.2.1
        · rw [k0, up_ne (by omega), up_ne (by omega), up_at]
          exact g5 0 (by decide)
        by_cases k1 : k = 3 * s.1.2.2.1 + 1
        · rw [k1, up_ne (by omega), up_at]
          exact g5 1 (by decide)
        by_cases k2 : k = 3 * s.1.2.2.1 + 2
        · rw [k2, up_at]
          exact g5 2 (by decide)
        rw [up_ne k2, up_ne k1, up_ne k0, Fa (m + 10) k (by omega) (by omega)]
        exact d5 k (by omega)
      · rw [Fa (m + 6) 0 (by omega) (by omega)]; exact d6
      · rw [Fa (m + 6) 1 (by omega) (by omega)]; exact d7
    · exact h0 I5 p' (by rw [hg]; rfl) (fun b k g1 _ _ g2 => by rw [F5 b k (by omega), zU_ne (by omega)])
theorem c_mwhole {f : Int32} (S : hMod G R K n m t c) (D : mD I m s) (O : okD s) (hQ : Q (some (.int (if whV s.1 = true then 1 else 0))) (MH I m p f e, J, R, K, n)) : zC G (d + 1) mX12_isWhole 0 0 [.ref m] (MH I m p f e, J, R, K, n) Q := by
  have o6 := O.1.1
  have o9 := O.2.1
  obtain ⟨d1, d2, d3, d4, d5, d6, d7⟩ := D
  have loop : ∀ (j i : Nat), i + j = s.1.2.2.1 → (∀ p, p < i → s.1.2.2.2.1 (3 * p) < s.1.1 ∧ s.1.2.2.2.1 (3 * p + 1) < s.1.1 ∧ s.1.2.2.2.1 (3 * p) ≠ s.1.2.2.2.1 (3 * p + 1)) → zV G (d + 1) mX12_isWhole 0 0 2 [(0, .ref m), (1, .int (nI i))] [] (MH I m p f e, J, R, K, n) Q := by
    intro j
    induction j with
    | zero =>
      intro i hi hw
      refine wX12_isWhole_2 m t c S _ ?_
      rw [MH_m (by omega), MH_m (by omega), d1, d2, tk_le (by omega) (by omega), show (0 : Int32) = nI 0 from rfl]
      refine ⟨fun _ => qI ?_ hQ, fun h => absurd (show s.1.2.2.1 ≤ i by omega) h⟩
      have e : whV s.1 = true ↔ 0 < s.1.1 := by
        unfold whV
        rw [decide_eq_true_iff]
        exact ⟨fun h => h.1, fun h => ⟨h, fun p hp => hw p (by omega)⟩⟩
      by_cases h : 0 < s.1.1
      · rw [if_pos (e.mpr h), if_neg (by rw [tk_le (by omega) (by omega)]; omega)]
      · rw [if_neg (fun h2 => h (e.mp h2)), if_pos (by rw [tk_le (by omega) (by omega)]; omega)]; rfl
    | succ j ih =>
      intro i hi hw
      obtain ⟨b1, b2, -⟩ := O.2.2.2.2.1 i (by omega)
      have bad : ¬ (s.1.2.2.2.1 (3 * i) < s.1.1 ∧ s.1.2.2.2.1 (3 * i + 1) < s.1.1 ∧ s.1.2.2.2.1 (3 * i) ≠ s.1.2.2.2.1 (3 * i + 1)) → Q (some (.int 0)) (MH I m p f e, J, R, K, n) := fun h => by
        have e : ¬ whV s.1 = true := by
          unfold whV
          rw [decide_eq_true_iff]
          exact fun h2 => h (h2.2 i (by omega))
        rw [if_neg e] at hQ
        exact hQ
      refine wX12_isWhole_2 m t c S _ ?_
      rw [MH_m (by omega), MH_m (by omega), d1, d2, tk_le (by omega) (by omega), show (3 * nI i : Int32) = nI (3 * i) by rw [show (3 : Int32) = nI 3 from rfl, pk_mul], nI_1, nI_1, tk_c (by omega), tk_c (by omega), MH_b (show m + 10 ≠ m by omega), d5 _ (by omega), d5 _ (by omega), tk_le (by omega) (by omega), tk_le (by omega) (by omega), tk_eq (by omega) (by omega)]
      refine ⟨fun h => absurd h (by omega), fun _ => ⟨(tk_in (by omega) (by omega)).mpr (by omega), (tk_in (by omega) (by omega)).mpr (by omega), fun h => bad (fun h2 => by omega), fun f1 => ⟨fun h => bad (fun h2 => by omega), fun f2 => ⟨fun h => bad (fun h2 => h2.2.2 h), fun h => ih (i + 1) (by omega) (fun p hp => ?_)⟩⟩⟩⟩
      by_cases ep : p = i
      · rw [ep]; exact ⟨by omega, by omega, h⟩
      · exact hw p (by omega)
  refine zC.of (by decide) (Nat.le_of_ble_eq_true rfl) ?_
  refine wX12_isWhole_0 m t c S ?_
  exact loop s.1.2.2.1 0 (by omega) (fun p hp => absurd hp (by omega))
theorem c_readVillage (S : hMod G R K n m t c) (hT : mT I m (ln, tx)) (h1 : ∀ I' vl rl p', (villP tx ln).2 = some vl → mFv m (stI I m ln) I' → mD I' m (vl, rl) → Q none (MH I' m p' (-1) (I m 12), J, zU R m 5 (some (m + 1)), K, n)) (h0 : ∀ I' p', (villP tx ln).2 = none → mFv m (stI I m ln) I' → Q none (MH I' m p' (nI (villP tx ln).1) (I m 12), J, zU R m 5 (some (m + 1)), K, n)) : zC G (d + 8) mX12_readVillage 0 0 [.ref m] (I, J, R, K, n) Q := by
  have SR := hMod_tape S
  have V := TM_st hT
  have v1 := hT.1
  have loop : ∀ (j p : Nat) (s : Vt × Bool) (I2 : Nat → Nat → Int32), ln < p + j → p ≤ ln → mFv m (stI I m ln) I2 → mD I2 m s → okD s → (∀ I' vl rl p', (vlP tx ln j p s).2 = some vl → mFv m (stI I m ln) I' → mD I' m (vl, rl) → Q none (MH I' m p' (-1) (I m 12), J, zU R m 5 (some (m + 1)), K, n)) → (∀ I' p', (vlP tx ln j p s).2 = none → mFv m (stI I m ln) I' → Q none (MH I' m p' (nI (vlP tx ln j p s).1) (I m 12), J, zU R m 5 (some (m + 1)), K, n)) → zV G (d + 8) mX12_readVillage 0 0 55 [(0, .ref m), (1, .int 1)] [] (MH I2 m p (-1) (I m 12), J, zU R m 5 (some (m + 1)), K, n) Q := by
    intro j
    induction j with
    | zero => intro p s I2 h1 h2; omega
    | succ j ih =>
      intro p s I2 hj hp F2 D2 O h1 h0
      obtain ⟨a, bb⟩ := vcP_ok (tx := tx) hp O
      have ga := sk_le (tx := tx) a
      have gg := sk_ge (tx := tx) (ln := ln) (p := (vcP tx ln p s).1)
      refine wX12_readVillage_55 m (m + 1) 240 SR _ ?_
      rw [MH_at.2.1]
      refine ⟨fun h => absurd h (by decide), fun _ => ⟨fun _ => ?_, fun h => absurd rfl h⟩⟩
      refine c_mclause SR rfl (F2.tm V rfl) hp D2 O (fun I3 s' hs F3 D3 => ?_) (fun I3 p' hs F3 => ?_)
      · obtain ⟨b1, b2⟩ := bb s' hs
        have FF : mFv m (stI I m ln) I3 := fun b k g1 g2 g3 g4 => by rw [F3 b k g1 g2 g3 g4, F2 b k g1 g2 g3 g4]
        rw [vlP, hs] at h1 h0
        simp only at h1 h0
        refine ⟨_, rfl, rfl, ?_⟩
        rw [MH_at.2.1]
        refine ⟨fun _ => ?_, fun h => absurd rfl h⟩
        refine c_look SR (FF.tm V rfl) a ?_
        refine ⟨_, _, rfl, rfl, ?_⟩
        by_cases h59 : lk tx ln (vcP tx ln p s).1 = 59
        · rw [if_pos h59]
          rw [if_neg (show ¬ lk tx ln (vcP tx ln p s).1 = -1 by rw [h59]; decide), if_pos h59] at h1 h0
          refine ⟨fun h => absurd h (by decide), fun _ => ?_⟩
          intro I4 q4
          rw [MH_at.1, nI_1, MH_10] at q4
          subst q4
          have hlt := lk_lt (p := (vcP tx ln p s).1) (tx := tx) (ln := ln) (by rw [h59]; decide)
          exact ih _ s' I3 (by omega) (by omega) FF D3 b2 h1 h0
        · rw [if_neg h59]
          refine ⟨fun _ => ?_, fun h => absurd rfl h⟩
          refine wX12_readVillage_55 m (m + 1) 240 SR _ ?_
          rw [MH_at.2.1]
          refine ⟨fun _ => ⟨fun _ => ?_, fun h => absurd rfl h⟩, fun h => absurd rfl h⟩
          refine c_look SR (FF.tm V rfl) ga ?_
          refine ⟨_, _, rfl, rfl, ?_⟩
          rw [lk_sk, sk_sk]
          refine ⟨fun hl => ?_, fun hl => ?_⟩
          · rw [if_pos hl] at h1 h0
            refine c_mwhole SR D3 b2 ?_
            refine ⟨_, _, rfl, rfl, ?_⟩
            by_cases hw : whV s'.1 = true
            · rw [if_pos hw] at h1 ⊢
              refine ⟨fun h => absurd h (by decide), fun _ => h1 I3 s'.1 s'.2 _ rfl FF D3⟩
            · rw [if_neg hw] at h0 ⊢
              refine ⟨fun _ => ?_, fun h => absurd rfl h⟩
              refine c_fails SR ?_
              refine ⟨_, _, rfl, rfl, ?_⟩
              exact h0 I3 _ rfl FF
          · rw [if_neg hl, if_neg h59] at h0
            refine c_fails SR ?_
            refine ⟨_, _, rfl, rfl, ?_⟩
            exact h0 I3 _ rfl FF
      · rw [vlP, hs] at h0
        have FF : mFv m (stI I m ln) I3 := fun b k g1 g2 g3 g4 => by rw [F3 b k g1 g2 g3 g4, F2 b k g1 g2 g3 g4]
        refine ⟨_, rfl, rfl, ?_⟩
        rw [MH_at.2.1]
        refine ⟨fun h => absurd ((tk_m1 (by omega)).mp h) id, fun _ => ⟨fun _ => ?_, fun h => absurd rfl h⟩⟩
        refine wX12_readVillage_55 m (m + 1) 240 SR _ ?_
        rw [MH_at.2.1]
        exact ⟨fun _ => ⟨fun h => absurd ((tk_m1 (by omega)).mp h) id, fun _ => h0 I3 p' rfl FF⟩, fun h => absurd rfl h⟩
  refine zC.of (by decide) (Nat.le_of_ble_eq_true rfl) ?_
  refine wX12_readVillage_0 m t c S ?_
  rw [hT.2.1]
  refine zC.of (by decide) (Nat.le_of_ble_eq_true rfl) ?_
  refine wX12_starts_0 m t c (m + 1) 240 (Mod_2 S) S _ _ ?_
  rintro R1 rfl
  refine ⟨m + 1, 240, SR, ?_⟩
  rintro _ rfl _ rfl _ rfl _ rfl
  refine ⟨_, _, _, rfl, rfl, m + 1, 240, SR, ?_⟩
  rw [MH_st]
  intro I5 q5 I6 q6 I7 q7
  rw [MH_k (by omega)] at q5
  rw [q5, MH_k (by omega)] at q6
  rw [q6, MH_k (by omega)] at q7
  subst q7
  obtain ⟨A, eA⟩ : ∃ A, A = zU (zU (zU (zU (zU I m 8 0) m 9 (nI ln)) m 28 0) m 29 0) m 31 0 := ⟨_, rfl⟩
  rw [← eA]
  have in0 : vp_in 0 2 := (tk_in (n := 0) (by omega) (by omega)).mpr (by omega)
  have in1 : vp_in 1 2 := (tk_in (n := 1) (by omega) (by omega)).mpr (by omega)
  refine wX12_readVillage_30 m (m + 1) 240 SR _ ⟨fun h => absurd h (by decide), fun _ => ?_⟩
  refine c_usual (i := 0) (k := 0) (by omega) (by omega) ?_
  refine ⟨_, _, rfl, rfl, ?_⟩
  refine ⟨in0, fun I8 q8 => ?_⟩
  rw [show (0 : Int32).toNatClampNeg = 0 from rfl, MH_z (by omega)] at q8
  subst q8
  rw [show (0 + 1 : Int32) = 1 from rfl]
  refine wX12_readVillage_30 m (m + 1) 240 SR _ ⟨fun h => absurd h (by decide), fun _ => ?_⟩
  refine c_usual (i := 0) (k := 1) (by omega) (by omega) ?_
  refine ⟨_, _, rfl, rfl, ?_⟩
  refine ⟨in1, fun I9 q9 => ?_⟩
  rw [show (1 : Int32).toNatClampNeg = 1 from rfl, MH_z (by omega)] at q9
  subst q9
  refine wX12_readVillage_30 m (m + 1) 240 SR _ ⟨fun _ => ?_, fun h => absurd (by decide) h⟩
  refine loop (ln + 1) 0 vl0 _ (by omega) (by omega) (fun b k g1 g2 g3 g4 => ?_) ⟨?_, ?_, ?_, fun f hf => absurd hf (Nat.not_lt_zero f), fun k hk => absurd hk (Nat.not_lt_zero k), ?_, ?_⟩ okD0 h1 h0
  · rw [zU_off g2, zU_off g2, eA, zU_ne (by omega), zU_ne (by omega), zU_ne (by omega)]; rfl
  · rw [zU_off (by omega), zU_off (by omega), eA, zU_ne (by omega), zU_ne (by omega), zU_self]; rfl
  · rw [zU_off (by omega), zU_off (by omega), eA, zU_ne (by omega), zU_self]; rfl
  · rw [zU_off (by omega), zU_off (by omega), eA, zU_self]; rfl
  · rw [zU_ne (by omega), zU_self]; rfl
  · rw [zU_self]; rfl
end
