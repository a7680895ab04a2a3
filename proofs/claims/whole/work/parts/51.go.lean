/-! HOW THE MODEL GOES THROUGH A LAW: the whole -/
/-- what stands behind a clause -/
def plr (tx : Nat → Nat) (ln f j q : Nat) : PR := if lk tx ln q = -1 then (sk tx ln q, some []) else if lk tx ln q = 59 then pla tx ln f j (sk tx ln q + 1) else (sk tx ln q, none)
theorem pla_eq {tx : Nat → Nat} {ln f j p : Nat} : pla tx ln f (j + 1) p = sq (pcl tx ln f p) (plr tx ln f j) := rfl
/-- the heap in which a law is gone through -/
def IB (I : Nat → Nat → Int32) (m : Nat) (x y : Int32) : Nat → Nat → Int32 := zU (zU (zU I m 8 x) m 9 y) m 13 121
theorem IB_eq {I : Nat → Nat → Int32} {m : Nat} {x y : Int32} : zU (zU (zU (zU (zU (zU (zU (zU I m 8 x) m 9 y) m 10 0) m 11 (-1)) m 13 121) m 12 0) m 17 0) m 14 0 = MH (HO (IB I m x y) m none) m 0 (-1) (nI 0) := by
  funext b k
  by_cases hb : b = m
  · subst hb
    have e0 : nI 0 = 0 := rfl
    by_cases k8 : k = 8
    · subst k8; simp [zU, MH, HO, IB]
    by_cases k9 : k = 9
    · subst k9; simp [zU, MH, HO, IB]
    by_cases k10 : k = 10
    · subst k10; simp [zU, MH, HO, IB, e0]
    by_cases k11 : k = 11
    · subst k11; simp [zU, MH, HO, IB]
    by_cases k12 : k = 12
    · subst k12; simp [zU, MH, HO, IB, e0]
    by_cases k13 : k = 13
    · subst k13; simp [zU, MH, HO, IB]
    by_cases k14 : k = 14
    · subst k14; simp [zU, MH, HO, IB]
    by_cases k17 : k = 17
    · subst k17; simp [zU, MH, HO, IB]
    simp [zU, MH, HO, IB, k8, k9, k10, k11, k12, k13, k14, k17]
  · simp [zU, MH, HO, IB, hb]
theorem IB_b {I : Nat → Nat → Int32} {m b : Nat} {x y : Int32} (h : b ≠ m) : IB I m x y b = I b := by
  unfold IB
  rw [zU_off h, zU_off h, zU_off h]
theorem IB_m {I : Nat → Nat → Int32} {m k : Nat} {x y : Int32} (h : k < 8 ∨ 13 < k) : IB I m x y m k = I m k := by
  unfold IB
  rw [zU_ne (by omega), zU_ne (by omega), zU_ne (by omega)]
theorem hMod_text {G : zG} {R : Nat → Nat → Option Nat} {K : Nat → Nat × Nat} {n m t c b cb : Nat} (S : hMod G R K n m t c) (hb : sA G K n b 33 cb) (_ : b ≠ m) : hMod G (zU R m 5 (some b)) K n m b cb :=
  ⟨Mod_0 S, (zU_ne (by omega)).trans (Mod_1 S), Mod_2 S, (zU_ne (by omega)).trans (Mod_3 S), Mod_4 S, (zU_ne (by omega)).trans (Mod_5 S), Mod_6 S, (zU_ne (by omega)).trans (Mod_7 S), Mod_8 S, (zU_ne (by omega)).trans (Mod_9 S), Mod_10 S, (zU_ne (by omega)).trans (Mod_11 S), Mod_12 S, (zU_ne (by omega)).trans (Mod_13 S), Mod_14 S, (zU_ne (by omega)).trans (Mod_15 S), Mod_16 S, (zU_ne (by omega)).trans (Mod_17 S), Mod_18 S, (zU_ne (by omega)).trans (Mod_19 S), Mod_20 S, (zU_ne (by omega)).trans (Mod_21 S), Mod_22 S, (zU_ne (by omega)).trans (Mod_23 S), Mod_24 S, (zU_ne (by omega)).trans (Mod_25 S), Mod_26 S, (zU_ne (by omega)).trans (Mod_27 S), Mod_28 S, (zU_ne (by omega)).trans (Mod_29 S), Mod_30 S, (zU_ne (by omega)).trans (Mod_31 S), Mod_32 S, (zU_ne (by omega)).trans (Mod_33 S), Mod_34 S, (zU_ne (by omega)).trans (Mod_35 S), Mod_36 S, (zU_ne (by omega)).trans (Mod_37 S), Mod_38 S, (zU_ne (by omega)).trans (Mod_39 S), Mod_40 S, (zU_ne (by omega)).trans (Mod_41 S), (zU_ne (by omega)).trans (Mod_42 S), zU_self .., hb⟩
section
variable {G : zG} {d : Nat} {I : Nat → Nat → Int32} {J : Nat → Nat → Int64} {R : Nat → Nat → Option Nat} {K : Nat → Nat × Nat} {n : Nat} {m t c bg ln : Nat} {tx : Nat → Nat} {L : Nat → Int32} {Q : Option Value → zH → Prop}
theorem l_go {f b cb : Nat} {l2 l3 : Int32} (S : hMod G R K n m t c) (hb : sA G K n b 33 cb) (V : TM I m t c bg ln tx) (hL : L = (fun k => I (m + 4) (chrA 3 k).toNatClampNeg)) (hM : ∀ k, k < 6 → L k ≠ Int32.minValue) (h13 : I m 13 = 121) (hf : 8 * ln + 8 ≤ f) :
    ∀ (j q : Nat) (o : Option Int32) (cs0 : List Int32), q ≤ ln → ln < q + j → CV L cs0 o → (∀ cc o1 p', (plr tx ln f j q).2 = some cc → CV L (cs0 ++ cc) o1 → Q none (MH (HO I m o1) m p' (-1) (nI 0), J, R, K, n)) → ((plr tx ln f j q).2 = none → ∀ o1 p' e', Q none (MH (HO I m o1) m p' (nI (plr tx ln f j q).1) e', J, R, K, n)) → zV G (d + 32) mX12_goThrough 0 0 32 [(0, .ref m), (1, .ref b), (2, .int l2), (3, .int l3)] [] (MH (HO I m o) m q (-1) (nI 0), J, R, K, n) Q := by
  have hln := V.1
  intro j
  induction j with
  | zero =>
    intro q o cs0 hq hj hC h1 h0
    omega
  | succ j ih =>
    intro q o cs0 hq hj hC h1 h0
    have g1 := sk_ge (tx := tx) (ln := ln) (p := q)
    have g2 := sk_le (tx := tx) hq
    have VH := V.ho S.ne o
    unfold plr at h1 h0
    refine wX12_goThrough_32 m t c b cb hb S _ _ ?_
    rw [MH_at.2.1]
    refine ⟨fun _ => ?_, fun h => absurd rfl h⟩
    refine c_look S VH hq ?_
    refine ⟨_, _, rfl, rfl, ?_⟩
    refine ⟨fun h59 => ?_, fun h59 => ?_⟩
    · rw [if_neg (by rw [h59]; decide), if_pos h59, pla_eq] at h1 h0
      have hk := lk_lt (p := q) (tx := tx) (ln := ln) (by rw [h59]; decide)
      rintro _ rfl
      rw [MH_at.1, nI_1, MH_10]
      refine c_clause S V hL hM h13 hf (by omega) (fun cc o1 k1 k2 => ⟨_, rfl, rfl, ?_⟩) (fun k1 p' e' => ⟨_, rfl, rfl, ?_⟩)
      · have hb2 := pc0_ok (tx := tx) (ln := ln) (f := f) (p := sk tx ln q + 1) (q := (pc0 tx ln f (sk tx ln q + 1)).1) (c := cc) (by omega) (by rw [← k1])
        have e1 : pcl tx ln f (sk tx ln q + 1) = ((pc0 tx ln f (sk tx ln q + 1)).1, some (cc ++ [-59])) := sq_some2 k1 rfl
        refine ih _ _ (cs0 ++ (cc ++ [-59])) hb2.2 (by omega) (hC.or k2) (fun cc2 o2 p' k3 k4 => ?_) (fun k3 o2 p' e' => ?_)
        · have e2 := sq_some2 (a := pcl tx ln f (sk tx ln q + 1)) (k := plr tx ln f j) (by rw [e1]) (by rw [e1]; exact k3)
          exact h1 _ o2 p' (by rw [e2]) (by rw [← List.append_assoc]; exact k4)
        · have e2 := sq_none2 (a := pcl tx ln f (sk tx ln q + 1)) (k := plr tx ln f j) (by rw [e1]) (by rw [e1]; exact k3)
          have := h0 (by rw [e2]) o2 p' e'
          rw [e2, e1] at this
          exact this
      · have e1 : pcl tx ln f (sk tx ln q + 1) = ((pc0 tx ln f (sk tx ln q + 1)).1, none) := sq_none1 k1
        have e2 := sq_none1 (a := pcl tx ln f (sk tx ln q + 1)) (k := plr tx ln f j) (by rw [e1])
        have := h0 (by rw [e2]) o p' e'
        rw [e2, e1] at this
        have hle : (pc0 tx ln f (sk tx ln q + 1)).1 ≤ ln := by
          have hcs : ∀ q, q ≤ ln → (pcs tx ln f q).1 ≤ ln := fun q hq => sq_le (acc_le (by decide) hq) (fun q2 hq2 => sq_le hq2 (fun q3 hq3 => pz_le _ _ _ _ hq3))
          refine sq_le (acc_le (by decide) (by omega)) (fun q0 hq0 => sq_le (acc_le (by decide) hq0) (fun q1 hq1 => ?_))
          have g3 := sk_le (tx := tx) hq1
          split
          · exact sq_le (pz_le _ _ _ _ g3) hcs
          · refine sq_le (pz_le _ _ _ _ g3) (fun e he => ?_)
            have g4 := sk_le (tx := tx) he
            split
            · exact sq_le (pz_le _ _ _ _ g4) hcs
            · exact g4
        refine wX12_goThrough_32 m t c b cb hb S _ _ ?_
        rw [MH_at.2.1]
        exact ⟨fun h => absurd ((tk_m1 (by omega)).mp h) id, fun _ => ⟨fun h => absurd ((tk_m1 (by omega)).mp h) id, fun _ => this⟩⟩
    · rw [MH_at.2.1]
      refine ⟨fun _ => ?_, fun h => absurd rfl h⟩
      refine c_look S VH g2 ?_
      refine ⟨_, _, rfl, rfl, ?_⟩
      rw [lk_sk, sk_sk]
      refine ⟨fun hm => ?_, fun hm => ?_⟩
      · rw [if_pos hm] at h1
        exact h1 [] o _ rfl (by rw [List.append_nil]; exact hC)
      · rw [if_neg hm, if_neg h59] at h0
        refine c_fails S ?_
        refine ⟨_, _, rfl, rfl, ?_⟩
        exact h0 rfl o _ _
theorem pla_pos {tx : Nat → Nat} {ln f : Nat} : ∀ (j p q : Nat) (c : List Int32), p ≤ ln → pla tx ln f j p = (q, some c) → p + c.length + 1 ≤ q ∧ q ≤ ln
  | 0, p, q, c, _, h => by simp [pla] at h
  | j + 1, p, q, c, hp, h => by
    rw [pla_eq] at h
    obtain ⟨p1, c1, c2, h1, h2, rfl⟩ := sq_some h
    obtain ⟨p2, c3, c4, h3, h4, rfl⟩ := sq_some h1
    simp only [em, Prod.mk.injEq, Option.some.injEq] at h4
    obtain ⟨rfl, rfl⟩ := h4
    have a1 := pc0_ok hp h3
    have g1 := sk_ge (tx := tx) (ln := ln) (p := p2)
    have g2 := sk_le (tx := tx) a1.2
    unfold plr at h2
    simp only [List.length_append, List.length_cons, List.length_nil]
    split at h2
    · simp only [Prod.mk.injEq, Option.some.injEq] at h2
      obtain ⟨rfl, rfl⟩ := h2
      simp only [List.length_nil]
      exact ⟨by omega, g2⟩
    · split at h2
      · rename_i h59
        have hk := lk_lt (p := p2) (tx := tx) (ln := ln) (by rw [h59]; decide)
        have a2 := pla_pos j (sk tx ln p2 + 1) q c2 (by omega) h2
        exact ⟨by omega, a2.2⟩
      · simp at h2
theorem c_goThrough {b cb : Nat} (S : hMod G R K n m t c) (hb : sA G K n b 33 cb) (hbm : b ≠ m) (hln : ln ≤ 240) (hc : bg + ln ≤ cb) (hcb : cb ≤ 960) (hT : ∀ k, k < ln → I b (bg + k) = sb (tx k) ∧ 1 ≤ tx k ∧ tx k < 256) (hL : L = (fun k => I (m + 4) (chrA 3 k).toNatClampNeg)) (hM : ∀ k, k < 6 → L k ≠ Int32.minValue)
    (h1 : ∀ cc q o p', plaw tx ln = (q, some cc) → o.getD 0 = worthA (fun j => cc.getD j 0) cc.length L → Q none (MH (HO (IB I m (nI bg) (nI ln)) m o) m p' (-1) (nI 0), J, zU R m 5 (some b), K, n)) (h0 : ∀ q o p' e', plaw tx ln = (q, none) → Q none (MH (HO (IB I m (nI bg) (nI ln)) m o) m p' (nI q) e', J, zU R m 5 (some b), K, n)) :
    zC G (d + 32) mX12_goThrough 0 0 [.ref m, .ref b, .int (nI bg), .int (nI ln)] (I, J, R, K, n) Q := by
  have SR : hMod G (zU R m 5 (some b)) K n m b cb := hMod_text S hb hbm
  have V : TM (IB I m (nI bg) (nI ln)) m b cb bg ln tx := by
    refine ⟨hln, hc, hcb, ?_, ?_, ?_⟩
    · unfold IB; rw [zU_ne (by omega), zU_ne (by omega), zU_self]
    · unfold IB; rw [zU_ne (by omega), zU_self]
    · rw [IB_b hbm]; exact hT
  have h13 : IB I m (nI bg) (nI ln) m 13 = 121 := zU_self ..
  have hL' : L = (fun k => IB I m (nI bg) (nI ln) (m + 4) (chrA 3 k).toNatClampNeg) := by rw [hL, IB_b (by omega)]
  refine zC.of (by decide) (Nat.le_of_ble_eq_true rfl) ?_
  refine wX12_goThrough_0 m t c b cb hb S _ _ ?_
  refine zC.of (by decide) (Nat.le_of_ble_eq_true rfl) ?_
  refine wX12_starts_0 m t c b cb hb S _ _ ?_
  rintro R1 rfl
  refine ⟨b, cb, SR, ?_⟩
  rintro _ rfl _ rfl _ rfl _ rfl
  refine ⟨_, _, _, rfl, rfl, b, cb, SR, ?_⟩
  rintro _ rfl _ rfl _ rfl _ rfl
  rw [IB_eq]
  have hP : plaw tx ln = sq (pcl tx ln (8 * ln + 8) 0) (plr tx ln (8 * ln + 8) ln) := rfl
  refine c_clause (o := none) SR V hL' hM h13 (Nat.le_refl _) (by omega) (fun cc o1 k1 k2 => ⟨_, rfl, rfl, ?_⟩) (fun k1 p' e' => ⟨_, rfl, rfl, ?_⟩)
  · have hb2 := pc0_ok (tx := tx) (ln := ln) (f := 8 * ln + 8) (p := 0) (q := (pc0 tx ln (8 * ln + 8) 0).1) (c := cc) (by omega) (by rw [← k1])
    have e1 : pcl tx ln (8 * ln + 8) 0 = ((pc0 tx ln (8 * ln + 8) 0).1, some (cc ++ [-59])) := sq_some2 k1 rfl
    refine l_go SR hb V hL' hM h13 (Nat.le_refl _) ln _ _ (cc ++ [-59]) hb2.2 (by omega) k2 (fun cc2 o2 p' k3 k4 => ?_) (fun k3 o2 p' e' => ?_)
    · have e2 := sq_some2 (a := pcl tx ln (8 * ln + 8) 0) (k := plr tx ln (8 * ln + 8) ln) (by rw [e1]) (by rw [e1]; exact k3)
      exact h1 _ _ o2 p' (hP.trans e2) k4.worth.symm
    · have e2 := sq_none2 (a := pcl tx ln (8 * ln + 8) 0) (k := plr tx ln (8 * ln + 8) ln) (by rw [e1]) (by rw [e1]; exact k3)
      rw [e1] at e2
      exact h0 _ o2 p' e' (hP.trans (by rw [e1]; exact e2))
  · have e1 : pcl tx ln (8 * ln + 8) 0 = ((pc0 tx ln (8 * ln + 8) 0).1, none) := sq_none1 k1
    have e2 := sq_none1 (a := pcl tx ln (8 * ln + 8) 0) (k := plr tx ln (8 * ln + 8) ln) (by rw [e1])
    rw [e1] at e2
    have hle : (pc0 tx ln (8 * ln + 8) 0).1 < 1000 := by
      have hcs : ∀ q, q ≤ ln → (pcs tx ln (8 * ln + 8) q).1 ≤ ln := fun q hq => sq_le (acc_le (by decide) hq) (fun q2 hq2 => sq_le hq2 (fun q3 hq3 => pz_le _ _ _ _ hq3))
      have : (pc0 tx ln (8 * ln + 8) 0).1 ≤ ln := by
        refine sq_le (acc_le (by decide) (by omega)) (fun q0 hq0 => sq_le (acc_le (by decide) hq0) (fun q1 hq1 => ?_))
        have g3 := sk_le (tx := tx) hq1
        split
        · exact sq_le (pz_le _ _ _ _ g3) hcs
        · refine sq_le (pz_le _ _ _ _ g3) (fun e he => ?_)
          have g4 := sk_le (tx := tx) he
          split
          · exact sq_le (pz_le _ _ _ _ g4) hcs
          · exact g4
      omega
    refine wX12_goThrough_32 m b cb b cb hb SR _ _ ?_
    rw [MH_at.2.1]
    exact ⟨fun h => absurd ((tk_m1 (by omega)).mp h) id, fun _ => ⟨fun h => absurd ((tk_m1 (by omega)).mp h) id, fun _ => h0 _ none p' e' (hP.trans (by rw [e1]; exact e2))⟩⟩
end
