/-! HOW THE MODEL GOES THROUGH A LAW: clauses, the whole -/
theorem sq_nil {p : Nat} {k : Nat → PR} : sq (p, some []) k = k p := by
  cases h : (k p).2 with
  | none => rw [sq_none2 rfl h]; exact Prod.ext rfl h.symm
  | some c2 => rw [sq_some2 rfl h]; exact Prod.ext rfl h.symm
theorem HO_m {I : Nat → Nat → Int32} {m k : Nat} {o : Option Int32} (h : k ≠ 14) (h2 : k ≠ 17) : HO I m o m k = I m k := by
  unfold HO
  rw [zU_ne (by omega), zU_ne (by omega)]
theorem HO_b {I : Nat → Nat → Int32} {m b : Nat} {o : Option Int32} (h : b ≠ m) : HO I m o b = I b := by
  unfold HO
  rw [zU_off h, zU_off h]
theorem HO_17 {I : Nat → Nat → Int32} {m : Nat} {o : Option Int32} : HO I m o m 17 = if o.isSome then 1 else 0 := by
  unfold HO
  rw [zU_ne (by omega), zU_self]
theorem HO_14 {I : Nat → Nat → Int32} {m : Nat} {o : Option Int32} : HO I m o m 14 = o.getD 0 := zU_self ..
section
variable {G : zG} {d : Nat} {I : Nat → Nat → Int32} {J : Nat → Nat → Int64} {R : Nat → Nat → Option Nat} {K : Nat → Nat × Nat} {n : Nat} {m t c bg ln : Nat} {tx : Nat → Nat} {L : Nat → Int32} {Q : Option Value → zH → Prop} {o : Option Int32}
theorem TM.ho (V : TM I m t c bg ln tx) (ht : t ≠ m) (o : Option Int32) : TM (HO I m o) m t c bg ln tx := by
  unfold TM
  rw [HO_m (by decide) (by decide), HO_m (by decide) (by decide), HO_b ht]
  exact V
theorem m_fin {p : Nat} {b v e : Int32} (hl : I m 13 = 121) (hQ : Q none (MH (HO I m (o.or (if b = 0 then none else some v))) m p (-1) e, J, R, K, n)) :
    (((MH (HO I m o) m p (-1) e m 11 : Int32) = (-1) → (((MH (HO I m o) m p (-1) e m 17 : Int32) = 0 → (((121 : Int32) = (MH (HO I m o) m p (-1) e m 13 : Int32) → ((b = 0 → Q none (MH (HO I m o) m p (-1) e, J, R, K, n)) ∧ (¬ (b = 0) → (∀ I24 : Nat → Nat → Int32, I24 = zU (MH (HO I m o) m p (-1) e) m 17 (1) → (∀ I25 : Nat → Nat → Int32, I25 = zU I24 m 14 (v) → Q none (I25, J, R, K, n)))))) ∧ (¬ ((121 : Int32) = (MH (HO I m o) m p (-1) e m 13 : Int32)) → Q none (MH (HO I m o) m p (-1) e, J, R, K, n)))) ∧ (¬ ((MH (HO I m o) m p (-1) e m 17 : Int32) = 0) → Q none (MH (HO I m o) m p (-1) e, J, R, K, n)))) ∧ (¬ ((MH (HO I m o) m p (-1) e m 11 : Int32) = (-1)) → Q none (MH (HO I m o) m p (-1) e, J, R, K, n))) := by
  rw [MH_at.2.1, MH_m (by omega), MH_m (by omega), HO_17, HO_m (by decide) (by decide), hl]
  refine ⟨fun _ => ⟨fun h17 => ⟨fun _ => ⟨fun hb => ?_, fun hb => ?_⟩, fun h => absurd rfl h⟩, fun h17 => ?_⟩, fun h => absurd rfl h⟩
  · rw [if_pos hb, Option.or_none] at hQ
    exact hQ
  · rintro _ rfl _ rfl
    cases o with
    | some w => exact absurd h17 (by simp)
    | none =>
      rw [MH_k (by omega), MH_k (by omega), HO_some]
      rw [if_neg hb, Option.none_or] at hQ
      exact hQ
  · cases o with
    | some w => exact hQ
    | none => exact absurd rfl h17
theorem m_cond {q f : Nat} {b : Int32} {c0 : List Int32} (S : hMod G R K n m t c) (V : TM I m t c bg ln tx) (hL : L = (fun k => I (m + 4) (chrA 3 k).toNatClampNeg)) (hM : ∀ k, k < 6 → L k ≠ Int32.minValue) (h13 : I m 13 = 121) (hf : 8 * ln + 8 ≤ f) (hq : q ≤ ln) (F0 : FR L c0 [] [b] 18)
    (h1 : ∀ cc2 o1, (pcs tx ln f q).2 = some cc2 → CV L (c0 ++ cc2 ++ [-59]) o1 → Q none (MH (HO I m (o.or o1)) m (pcs tx ln f q).1 (-1) (nI 0), J, R, K, n)) (h0 : (pcs tx ln f q).2 = none → ∀ p' e', Q none (MH (HO I m o) m p' (nI (pcs tx ln f q).1) e', J, R, K, n)) :
    zC G (d + 30) mX12_takes 0 0 [.ref m, .int 63] (MH (HO I m o) m q (-1) (nI 0), J, R, K, n) (fun r h => ∃ (x15 : Int32) (I16 : Nat → Nat → Int32), r = some (.int x15) ∧ h = (I16, J, R, K, n) ∧ ((x15 = 0 → Q none (I16, J, R, K, n)) ∧ (¬ (x15 = 0) → zC G (d + 30) mX12_sum 0 0 [.ref (m)] (I16, J, R, K, n) (fun r h => ∃ (x18 : Int32) (I19 : Nat → Nat → Int32), r = some (.int x18) ∧ h = (I19, J, R, K, n) ∧ (((I19 m 11 : Int32) = (-1) → (((I19 m 17 : Int32) = 0 → (((121 : Int32) = (I19 m 13 : Int32) → ((b = 0 → Q none (I19, J, R, K, n)) ∧ (¬ (b = 0) → (∀ I24 : Nat → Nat → Int32, I24 = zU I19 m 17 (1) → (∀ I25 : Nat → Nat → Int32, I25 = zU I24 m 14 (x18) → Q none (I25, J, R, K, n)))))) ∧ (¬ ((121 : Int32) = (I19 m 13 : Int32)) → Q none (I19, J, R, K, n)))) ∧ (¬ ((I19 m 17 : Int32) = 0) → Q none (I19, J, R, K, n)))) ∧ (¬ ((I19 m 11 : Int32) = (-1)) → Q none (I19, J, R, K, n))))))) := by
  have hln := V.1
  have g1 := sk_ge (tx := tx) (ln := ln) (p := q)
  have g2 := sk_le (tx := tx) hq
  refine c_takes S (V.ho S.ne o) hq (fun h => ?_) (fun h => ?_)
  · have hk := lk_lt (p := q) (tx := tx) (ln := ln) (by rw [h]; decide)
    have e0 : pcs tx ln f q = sq (em (-63) (sk tx ln q + 1)) (fun q3 => pz tx ln f 2 0 q3) := by
      unfold pcs
      rw [show acc tx ln 63 q = (sk tx ln q + 1, some []) from if_pos h, sq_nil]
    refine ⟨_, _, rfl, rfl, fun h => absurd h (by decide), fun _ => ?_⟩
    refine (ml_all (I := HO I m o) (L := L) S (V.ho S.ne o) (by rw [hL, HO_b (by omega)]) hM f).2.2.1 0 (sk tx ln q + 1) (d + 30) _ (by omega) (by omega) (by have : cm 2 = 3 := rfl; omega) (by have : fm 2 0 = 26 := rfl; omega) ⟨fun cc v hc F hv _ => ⟨_, _, rfl, rfl, ?_⟩, fun hn v p' e' _ => ⟨_, _, rfl, rfl, ?_⟩⟩
    · have e1 : pcs tx ln f q = ((pz tx ln f 2 0 (sk tx ln q + 1)).1, some ([-63] ++ cc)) := by rw [e0]; exact sq_some2 (a := em (-63) (sk tx ln q + 1)) rfl hc
      have h59 := pz_n59 (tx := tx) (ln := ln) f 2 0 (sk tx ln q + 1) _ cc (by omega) (by rw [← hc])
      refine m_fin h13 ?_
      have := h1 ([-63] ++ cc) (if b = 0 then none else some v) (by rw [e1]) (CV.cond F0 (F.wide (show hm 2 0 ≤ 18 by decide)) (by decide) h59)
      rw [e1] at this
      exact this
    · have e1 : pcs tx ln f q = ((pz tx ln f 2 0 (sk tx ln q + 1)).1, none) := by rw [e0]; exact sq_none2 (a := em (-63) (sk tx ln q + 1)) rfl hn
      have hle := pz_le (tx := tx) (ln := ln) f 2 0 (sk tx ln q + 1) (by omega)
      rw [MH_at.2.1]
      have := h0 (by rw [e1]) p' e'
      rw [e1] at this
      exact ⟨fun h => absurd ((tk_m1 (by omega)).mp h) id, fun _ => this⟩
  · have e1 : pcs tx ln f q = (sk tx ln q, none) := by
      unfold pcs
      rw [show acc tx ln 63 q = (sk tx ln q, none) from if_neg h]
      exact sq_none1 rfl
    have := h0 (by rw [e1]) (sk tx ln q) (nI 0)
    rw [e1] at this
    exact ⟨_, _, rfl, rfl, fun _ => this, fun h => absurd rfl h⟩
theorem c_clause {p f : Nat} (S : hMod G R K n m t c) (V : TM I m t c bg ln tx) (hL : L = (fun k => I (m + 4) (chrA 3 k).toNatClampNeg)) (hM : ∀ k, k < 6 → L k ≠ Int32.minValue) (h13 : I m 13 = 121) (hf : 8 * ln + 8 ≤ f) (hp : p ≤ ln)
    (h1 : ∀ cc o1, (pc0 tx ln f p).2 = some cc → CV L (cc ++ [-59]) o1 → Q none (MH (HO I m (o.or o1)) m (pc0 tx ln f p).1 (-1) (nI 0), J, R, K, n)) (h0 : (pc0 tx ln f p).2 = none → ∀ p' e', Q none (MH (HO I m o) m p' (nI (pc0 tx ln f p).1) e', J, R, K, n)) :
    zC G (d + 31) mX12_clause 0 0 [.ref m] (MH (HO I m o) m p (-1) (nI 0), J, R, K, n) Q := by
  have hln := V.1
  have g1 := sk_ge (tx := tx) (ln := ln) (p := p)
  have g2 := sk_le (tx := tx) hp
  have VH := V.ho S.ne o
  have ML := ml_all (G := G) (J := J) (R := R) (K := K) (n := n) (I := HO I m o) (L := L) S VH (by rw [hL, HO_b (by omega)]) hM f
  have hy : ∀ s : Int32, idxA 4 s = if (121 : Int32) = s then 0 else -1 := fun s => rfl
  refine zC.of (by decide) (Nat.le_of_ble_eq_true rfl) ?_
  refine wX12_clause_0 m t c S ?_
  refine c_look S VH hp ?_
  refine ⟨_, _, rfl, rfl, ?_⟩
  refine c_isAmong (i := 4) (by decide) ?_
  refine ⟨_, _, rfl, rfl, ?_⟩
  by_cases hx : lk tx ln p = 121
  · have hk := lk_lt (p := p) (tx := tx) (ln := ln) (by rw [hx]; decide)
    have e0 : pc0 tx ln f p = sq (acc tx ln 58 (sk tx ln p + 1)) (fun q => if lk tx ln q = 33 ∨ lk tx ln q = 40 then sq (pz tx ln f 0 0 (sk tx ln q)) (pcs tx ln f) else sq (pz tx ln f 2 0 (sk tx ln q)) (fun e => if isS (lk tx ln e) then sq (pz tx ln f 11 0 (sk tx ln e)) (pcs tx ln f) else (sk tx ln e, some []))) := by
      unfold pc0
      rw [show acc tx ln 121 p = (sk tx ln p + 1, some []) from if_pos hx, sq_nil]
    rw [e0] at h1 h0
    clear e0
    rw [hx, if_neg (show ¬ idxA 4 121 = -1 by decide)]
    refine ⟨fun h => absurd h (by decide), fun _ => ?_⟩
    rintro _ rfl
    rw [MH_at.1, nI_1, MH_10]
    generalize hq0 : sk tx ln p + 1 = q0 at h1 h0 ⊢
    have hq0l : q0 ≤ ln := by omega
    have g3 := sk_ge (tx := tx) (ln := ln) (p := q0)
    have g4 := sk_le (tx := tx) hq0l
    refine c_takes S VH hq0l (fun h => ?_) (fun h => ?_)
    · rw [show acc tx ln 58 q0 = (sk tx ln q0 + 1, some []) from if_pos h, sq_nil] at h1 h0
      have hk2 := lk_lt (p := q0) (tx := tx) (ln := ln) (by rw [h]; decide)
      refine ⟨_, _, rfl, rfl, fun h => absurd h (by decide), fun _ => ?_⟩
      generalize hq1 : sk tx ln q0 + 1 = q1 at h1 h0 ⊢
      have hq1l : q1 ≤ ln := by omega
      have g5 := sk_ge (tx := tx) (ln := ln) (p := q1)
      have g6 := sk_le (tx := tx) hq1l
      refine c_look S VH hq1l ?_
      refine ⟨_, _, rfl, rfl, ?_⟩
      by_cases hc : lk tx ln q1 = 33 ∨ lk tx ln q1 = 40
      · rw [if_pos hc] at h1 h0
        have key : zC G (d + 30) mX12_condition 0 0 [.ref (m), .int (0), .int (0)] (MH (HO I m o) m (sk tx ln q1) (-1) (nI 0), J, R, K, n) (fun r h => ∃ (x13 : Int32) (I14 : Nat → Nat → Int32), r = some (.int x13) ∧ h = (I14, J, R, K, n) ∧ zC G (d + 30) mX12_takes 0 0 [.ref (m), .int (63)] (I14, J, R, K, n) (fun r h => ∃ (x15 : Int32) (I16 : Nat → Nat → Int32), r = some (.int x15) ∧ h = (I16, J, R, K, n) ∧ ((x15 = 0 → Q none (I16, J, R, K, n)) ∧ (¬ (x15 = 0) → zC G (d + 30) mX12_sum 0 0 [.ref (m)] (I16, J, R, K, n) (fun r h => ∃ (x18 : Int32) (I19 : Nat → Nat → Int32), r = some (.int x18) ∧ h = (I19, J, R, K, n) ∧ (((I19 m 11 : Int32) = (-1) → (((I19 m 17 : Int32) = 0 → (((121 : Int32) = (I19 m 13 : Int32) → ((x13 = 0 → Q none (I19, J, R, K, n)) ∧ (¬ (x13 = 0) → (∀ I24 : Nat → Nat → Int32, I24 = zU I19 m 17 (1) → (∀ I25 : Nat → Nat → Int32, I25 = zU I24 m 14 (x18) → Q none (I25, J, R, K, n)))))) ∧ (¬ ((121 : Int32) = (I19 m 13 : Int32)) → Q none (I19, J, R, K, n)))) ∧ (¬ ((I19 m 17 : Int32) = 0) → Q none (I19, J, R, K, n)))) ∧ (¬ ((I19 m 11 : Int32) = (-1)) → Q none (I19, J, R, K, n)))))))) := by
          refine ML.2.2.2.2.2.2.2.2.2.2.2.1 0 (sk tx ln q1) (d + 30) _ (by omega) g6 (by have : cm 0 = 6 := rfl; omega) (by have : fm 0 0 = 30 := rfl; omega) ⟨fun cc b hcc F hv hb => ⟨_, _, rfl, rfl, ?_⟩, fun hn b p' e' hb => ⟨_, _, rfl, rfl, ?_⟩⟩
          · have hb2 := pz_ok (tx := tx) (ln := ln) f 0 0 (sk tx ln q1) (pz tx ln f 0 0 (sk tx ln q1)).1 cc g6 (by rw [← hcc])
            refine m_cond S V hL hM h13 hf hb2.2.1 F (fun cc2 o1 k1 k2 => ?_) (fun k1 p' e' => ?_)
            · have e1 := sq_some2 hcc k1
              have := h1 (cc ++ cc2) o1 (by rw [e1]) k2
              rw [e1] at this
              exact this
            · have e1 := sq_none2 hcc k1
              have := h0 (by rw [e1]) p' e'
              rw [e1] at this
              exact this
          · have e1 := sq_none1 (k := pcs tx ln f) hn
            have hle := pz_le (tx := tx) (ln := ln) f 0 0 (sk tx ln q1) g6
            have := h0 (by rw [e1]) p' e'
            rw [e1] at this
            refine c_takes_f S (by omega) ?_
            refine ⟨_, _, rfl, rfl, ?_⟩
            exact ⟨fun _ => this, fun h => absurd rfl h⟩
        refine ⟨fun _ => key, fun hn33 => ⟨fun _ => key, fun hn40 => ?_⟩⟩
        rcases hc with h | h
        · exact absurd h hn33
        · exact absurd h hn40
      · rw [if_neg hc] at h1 h0
        refine ⟨fun h => absurd (Or.inl h) hc, fun _ => ⟨fun h => absurd (Or.inr h) hc, fun _ => ?_⟩⟩
        refine ML.2.2.1 0 (sk tx ln q1) (d + 30) _ (by omega) g6 (by have : cm 2 = 3 := rfl; omega) (by have : fm 2 0 = 26 := rfl; omega) ⟨fun cc v hcc F hv _ => ⟨_, _, rfl, rfl, ?_⟩, fun hn v p' e' _ => ⟨_, _, rfl, rfl, ?_⟩⟩
        · have hb2 := pz_ok (tx := tx) (ln := ln) f 2 0 (sk tx ln q1) (pz tx ln f 2 0 (sk tx ln q1)).1 cc g6 (by rw [← hcc])
          rw [MH_at.2.1]
          refine ⟨fun _ => ?_, fun h => absurd rfl h⟩
          have h1' : ∀ cc2 o1, (if isS (lk tx ln (pz tx ln f 2 0 (sk tx ln q1)).1) then sq (pz tx ln f 11 0 (sk tx ln (pz tx ln f 2 0 (sk tx ln q1)).1)) (pcs tx ln f) else (sk tx ln (pz tx ln f 2 0 (sk tx ln q1)).1, some [])).2 = some cc2 → CV L (cc ++ cc2 ++ [-59]) o1 → Q none (MH (HO I m (o.or o1)) m (if isS (lk tx ln (pz tx ln f 2 0 (sk tx ln q1)).1) then sq (pz tx ln f 11 0 (sk tx ln (pz tx ln f 2 0 (sk tx ln q1)).1)) (pcs tx ln f) else (sk tx ln (pz tx ln f 2 0 (sk tx ln q1)).1, some [])).1 (-1) (nI 0), J, R, K, n) := by
            intro cc2 o1 k1 k2
            have e1 := sq_some2 (k := fun e => if isS (lk tx ln e) then sq (pz tx ln f 11 0 (sk tx ln e)) (pcs tx ln f) else (sk tx ln e, some [])) hcc k1
            have := h1 (cc ++ cc2) o1 (by rw [e1]) k2
            rw [e1] at this
            exact this
          have h0' : (if isS (lk tx ln (pz tx ln f 2 0 (sk tx ln q1)).1) then sq (pz tx ln f 11 0 (sk tx ln (pz tx ln f 2 0 (sk tx ln q1)).1)) (pcs tx ln f) else (sk tx ln (pz tx ln f 2 0 (sk tx ln q1)).1, some [])).2 = none → ∀ p' e', Q none (MH (HO I m o) m p' (nI (if isS (lk tx ln (pz tx ln f 2 0 (sk tx ln q1)).1) then sq (pz tx ln f 11 0 (sk tx ln (pz tx ln f 2 0 (sk tx ln q1)).1)) (pcs tx ln f) else (sk tx ln (pz tx ln f 2 0 (sk tx ln q1)).1, some [])).1) e', J, R, K, n) := by
            intro k1 p' e'
            have e1 := sq_none2 (k := fun e => if isS (lk tx ln e) then sq (pz tx ln f 11 0 (sk tx ln e)) (pcs tx ln f) else (sk tx ln e, some [])) hcc k1
            have := h0 (by rw [e1]) p' e'
            rw [e1] at this
            exact this
          clear h1 h0
          generalize (pz tx ln f 2 0 (sk tx ln q1)).1 = e at hb2 h1' h0' ⊢
          have g7 := sk_ge (tx := tx) (ln := ln) (p := e)
          have g8 := sk_le (tx := tx) hb2.2.1
          refine c_look S VH hb2.2.1 ?_
          refine ⟨_, _, rfl, rfl, ?_⟩
          refine c_isSign ?_
          refine ⟨_, _, rfl, rfl, ?_⟩
          by_cases hj : isS (lk tx ln e) = true
          · rw [if_pos hj] at h1' h0'
            rw [if_pos hj]
            refine ⟨fun h => absurd h (by decide), fun _ => ?_⟩
            refine ML.2.2.2.2.2.2.2.2.2.2.2.2.1 0 (sk tx ln e) (d + 30) v _ (by omega) g8 (by have : cm 11 = 3 := rfl; omega) (by have : fm 11 0 = 30 := rfl; omega) ⟨fun ck b hck F2 hv2 hb => ⟨_, _, rfl, rfl, ?_⟩, fun hn b p' e' hb => ⟨_, _, rfl, rfl, ?_⟩⟩
            · have hb3 := pz_ok (tx := tx) (ln := ln) f 11 0 (sk tx ln e) (pz tx ln f 11 0 (sk tx ln e)).1 ck g8 (by rw [← hck])
              refine m_cond S V hL hM h13 hf hb3.2.1 (FR.seq (F.wide (show hm 2 0 ≤ 18 by decide)) (F2.wide (show hm 11 0 ≤ 18 by decide))) (fun cc2 o1 k1 k2 => ?_) (fun k1 p' e' => ?_)
              · have e1 := sq_some2 hck k1
                have := h1' (ck ++ cc2) o1 (by rw [e1]) (by rw [← List.append_assoc]; exact k2)
                rw [e1] at this
                exact this
              · have e1 := sq_none2 hck k1
                have := h0' (by rw [e1]) p' e'
                rw [e1] at this
                exact this
            · have e1 := sq_none1 (k := pcs tx ln f) hn
              have hle := pz_le (tx := tx) (ln := ln) f 11 0 (sk tx ln e) g8
              have := h0' (by rw [e1]) p' e'
              rw [e1] at this
              refine c_takes_f S (by omega) ?_
              refine ⟨_, _, rfl, rfl, ?_⟩
              exact ⟨fun _ => this, fun h => absurd rfl h⟩
          · rw [if_neg hj] at h1' h0'
            rw [if_neg hj]
            refine ⟨fun _ => ?_, fun h => absurd rfl h⟩
            refine m_fin h13 ?_
            rw [if_neg (by decide)]
            exact h1' [] (some v) rfl (by rw [List.append_nil]; exact CV.plain F (show hm 2 0 ≤ 32 by decide))
        · have e1 := sq_none1 (k := fun e => if isS (lk tx ln e) then sq (pz tx ln f 11 0 (sk tx ln e)) (pcs tx ln f) else (sk tx ln e, some [])) hn
          have hle := pz_le (tx := tx) (ln := ln) f 2 0 (sk tx ln q1) g6
          have := h0 (by rw [e1]) p' e'
          rw [e1] at this
          rw [MH_at.2.1]
          exact ⟨fun h => absurd ((tk_m1 (by omega)).mp h) id, fun _ => ⟨fun h => absurd ((tk_m1 (by omega)).mp h) id, fun _ => this⟩⟩
    · rw [show acc tx ln 58 q0 = (sk tx ln q0, none) from if_neg h, sq_none1 rfl] at h0
      exact ⟨_, _, rfl, rfl, fun _ => h0 rfl _ _, fun h => absurd rfl h⟩
  · have e1 : pc0 tx ln f p = (sk tx ln p, none) := by
      unfold pc0
      rw [show acc tx ln 121 p = (sk tx ln p, none) from if_neg hx]
      exact sq_none1 rfl
    rw [e1] at h0
    rw [if_pos (show idxA 4 (lk tx ln p) = -1 by rw [hy, if_neg (fun h => hx h.symm)])]
    refine ⟨fun _ => ?_, fun h => absurd rfl h⟩
    refine c_fails S ?_
    refine ⟨_, _, rfl, rfl, ?_⟩
    exact h0 rfl _ _
end
