/-! THE FACE: perform: the model -/
section
variable {G : zG} {d : Nat} {I : Nat → Nat → Int32} {J : Nat → Nat → Int64} {R : Nat → Nat → Option Nat} {K : Nat → Nat × Nat} {n : Nat} {x m v w q nx lo M t c : Nat} {lk sq : Nat → Nat} {tl : Nat → Nat} {tt : Nat → Nat → Nat} {vl : Vt} {st : Stt} {tp : Tpt} {lw : Lwt} {sp : Spt} {ap : Nat} {sg : Sgt} {B B' : Nat} {p p2 : Int32} {T T' : Nat → Nat} {LG LG' : Nat → Nat → Nat} {Q : Option Value → zH → Prop}
theorem y_perform_n (C : MIv G I J R K n m t c tl tt vl st tp lw sp ap sg B) (hp : ¬ 0 < vl.1 ∨ bad sp.1 p) : YL G (d + 2) mX12_perform [.ref m, .int p] I J R K n m tl tt (-1) vl st tp lw sp ap sg B := by
  intro Q hQ
  obtain ⟨M1, f1⟩ := C.z0 (y := 0)
  replace hQ := hQ _ J R t c M1 (fun b hb => ⟨f1 b hb, rfl⟩) (fun _ _ => rfl)
  have h4 := C.p_.1
  refine zC.of (by decide) (Nat.le_of_ble_eq_true rfl) ?_
  refine wX12_perform_0 m t c C.S_ _ ?_
  rintro _ rfl
  refine c_ys M1 ?_
  refine ⟨_, _, rfl, rfl, ?_⟩
  refine ⟨fun _ => hQ, fun h1 => ⟨fun _ => hQ, fun h0 => ?_⟩⟩
  rw [M1.v_.1.1] at h0
  exact absurd (told_n (hp.resolve_left (fun h => h0 (by rw [show vl.1 = 0 by omega]; rfl)))) h1
theorem y_perform_y (C : MIv G I J R K n m t c tl tt vl st tp lw sp ap sg B) (hd : chn (st.1 49) st.2.2.1) (hv : 0 < vl.1) {k : Nat} (hk : k < sp.1) (hB : B + 20 < 100000) : YL G (d + 38) mX12_perform [.ref m, .int (nI k)] I J R K n m tl tt (nI (perA vl lw (sp.2.2 k) (sp.2.1 k) 0 st).1) vl (perA vl lw (sp.2.2 k) (sp.2.1 k) 0 st).2 tp lw sp ap sg (B + 16) := by
  intro Q hQ
  obtain ⟨M1, f1⟩ := C.z0 (y := 0)
  obtain ⟨h4, -, c3⟩ := C.p_
  obtain ⟨h16, -, -⟩ := c3 k hk
  have h6 := C.okv_.1.1
  have hk5 : vp_in (nI k) 5 := (tk_in (by omega) (by omega)).mpr (by omega)
  have e3 : ∀ i : Nat, (3 * (16 * nI k + nI i) : Int32) = nI (3 * (16 * k + i)) := fun i => by rw [show (16 : Int32) = nI 16 from rfl, show (3 : Int32) = nI 3 from rfl, pk_mul, nI_add, pk_mul]
  refine zC.of (by decide) (Nat.le_of_ble_eq_true rfl) ?_
  refine wX12_perform_0 m t c C.S_ _ ?_
  rintro _ rfl
  refine c_ys M1 ?_
  refine ⟨_, _, rfl, rfl, ?_⟩
  rw [told_y (by omega) hk]
  refine ⟨fun h => absurd h (by decide), fun _ => ⟨fun h => ?_, fun _ => ?_⟩⟩
  · rw [M1.v_.1.1, show (0 : Int32) = nI 0 from rfl, tk_eq (by omega) (by omega)] at h
    omega
  have loop : ∀ (j i : Nat) (I' : Nat → Nat → Int32) (J' : Nat → Nat → Int64) (R' : Nat → Nat → Option Nat) (t' c' : Nat) (st' : Stt), i + j = sp.2.1 k → MIv G I' J' R' K n m t' c' tl tt vl st' tp lw sp ap sg (B + i) → chn (st'.1 49) st'.2.2.1 → MF m I I' J J' R R' → perA vl lw (sp.2.2 k) j i st' = perA vl lw (sp.2.2 k) (sp.2.1 k) 0 st → zV G (d + 38) mX12_perform 0 0 24 [(0, .ref m), (1, .int (nI k)), (2, .int (nI i))] [] (I', J', R', K, n) Q := by
    intro j
    induction j with
    | zero =>
      intro i I' J' R' t' c' st' hi C' hd' F' e
      obtain ⟨-, e12, -⟩ := C'.p_.2.2 k hk
      rw [perA] at e
      rw [← e] at hQ
      refine wX12_perform_24 m t' c' C'.S_ _ _ ⟨hk5, ?_⟩
      rw [tk_c (by omega), e12]
      exact ⟨fun _ => hQ I' J' R' t' c' (C'.wide (by omega) (by omega)) F'.1 F'.2, fun h => absurd ((tk_le (by omega) (by omega)).mpr (by omega)) h⟩
    | succ j ih =>
      intro i I' J' R' t' c' st' hi C' hd' F' e
      obtain ⟨-, e12, st3⟩ := C'.p_.2.2 k hk
      obtain ⟨x1, x2, x3, x4⟩ := st3 i (by omega)
      have h9 := C'.oks_.2.2.2.1
      rw [perA] at e
      refine wX12_perform_24 m t' c' C'.S_ _ _ ⟨hk5, ?_⟩
      rw [tk_c (by omega), e12]
      refine ⟨fun h => ?_, fun _ => ?_⟩
      · rw [tk_le (by omega) (by omega)] at h
        omega
      rw [e3]
      refine c_mcanStep C'.S_ (Mod_26 C'.S_) C'.v_.1 C.okv_.1 C'.mr C'.oks_.1 (k := k) (i := i) (P := sp.2.2 k) (by omega) (by omega) x1 x2 x3 x4 ?_ ?_
      · intro hc
        rw [if_pos hc] at e
        refine ⟨_, _, rfl, rfl, fun h => absurd h (by decide), fun _ => ?_⟩
        refine c_remember C'.S_ C'.s_.1 C'.s_.2.1 C'.s_.2.2.1 C'.s_.2.2.2.1 ?_
        intro I5 a1 a2 a3 a4
        refine ⟨_, rfl, rfl, ?_⟩
        obtain ⟨b1, b2, b3, b4, b5⟩ := C'.rm a3 a4
        have x11 : I5 (m + 11) = I' (m + 11) := a4 _ (by omega) (by omega)
        have ok2 := C'.oks_.1.step (Wc := aW lw) C.okv_.1 (by omega) hc
        have e49 := step49 (Wc := aW lw) C'.oks_.1 C.okv_.1 hc
        refine c_mgoStep C'.S_ (Mod_26 C'.S_) (Or.inl rfl) b1 b2 b3 C.okv_.1 b4 C'.oks_.1 (j := min 60 (st'.1 49)) (by omega) b5.2.1 (k := k) (i := i) (P := sp.2.2 k) (by omega) (by omega) (by rw [x11]; exact x1) (by rw [x11]; exact x2) (by rw [x11]; exact x3) hc ?_
        intro I7 J8 R9 t2 c2 S' L' F2 r2 k2 l2
        refine ⟨_, _, _, _, rfl, rfl, _, _, S', ?_⟩
        rw [nI_1]
        by_cases h3 : sp.2.2 k (3 * i) = 3
        · rw [if_pos h3] at e49
          have eD : stepT (aW lw) vl.1 vl.2.1 st'.1 (sp.2.2 k (3 * i)) (sp.2.2 k (3 * i + 1)) (sp.2.2 k (3 * i + 2)) = dayT vl.1 vl.2.1 st'.1 := by
            unfold stepT
            rw [h3, if_neg (by decide), if_neg (by decide), if_neg (by decide)]
          have h999 : st'.1 49 < 999 := by
            rcases hc with ⟨h, -⟩ | ⟨h, -⟩ | ⟨h, -⟩ | ⟨-, h⟩
            · rw [h3] at h; exact absurd h (by decide)
            · rw [h3] at h; exact absurd h (by decide)
            · rw [h3] at h; exact absurd h (by decide)
            · exact h
          have eS : stpS vl lw (sp.2.2 k) i st' = (dayT vl.1 vl.2.1 st'.1, dlog vl.1 vl.2.1 st'.1 st'.2.1, push st'.1 st'.2.2.1, st'.2.2.2) := by
            unfold stpS
            rw [if_pos h3, eD]
          rw [eD] at r2 ok2 e49
          rw [eS] at e
          obtain ⟨j', lg⟩ := l2 h3
          obtain ⟨d1, d2, d3⟩ := y_act C' a1 a2 a3 a4 S' L' F2 (b5.day r2 lg) (fun y w hy => by unfold dlog; rw [if_neg (by omega)]) ok2 (by omega) (by omega) hd'
          exact ih (i + 1) I7 J8 R9 t2 c2 _ (by omega) d1 (chn_push (T' := dayT vl.1 vl.2.1 st'.1) hd' (by omega) (by omega)) (F'.tr ⟨d2, d3⟩) e
        · rw [if_neg h3] at e49
          have eS : stpS vl lw (sp.2.2 k) i st' = actS st' (stepT (aW lw) vl.1 vl.2.1 st'.1 (sp.2.2 k (3 * i)) (sp.2.2 k (3 * i + 1)) (sp.2.2 k (3 * i + 2))) := by
            unfold stpS actS
            rw [if_neg h3]
          rw [eS] at e
          obtain ⟨d1, d2, d3⟩ := y_act C' a1 a2 a3 a4 S' L' F2 (b5.same r2 (k2 h3) e49) (fun _ _ _ => rfl) ok2 (by omega) (by omega) hd'
          exact ih (i + 1) I7 J8 R9 t2 c2 _ (by omega) d1 (chn_push (T' := stepT (aW lw) vl.1 vl.2.1 st'.1 (sp.2.2 k (3 * i)) (sp.2.2 k (3 * i + 1)) (sp.2.2 k (3 * i + 2))) hd' (by omega) (by omega)) (F'.tr ⟨d2, d3⟩) e
      · intro hc
        rw [if_neg hc] at e
        rw [← e] at hQ
        exact ⟨_, _, rfl, rfl, fun _ => hQ I' J' R' t' c' (C'.wide (by omega) (by omega)) F'.1 F'.2, fun h => absurd rfl h⟩
  exact loop (sp.2.1 k) 0 _ J R t c st (by omega) M1 hd (MF.z f1) rfl
end
