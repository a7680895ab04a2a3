/-! THE LAW: its loop -/
set_option maxHeartbeats 4000000 in
set_option maxRecDepth 100000 in
theorem law_step {G : zG} {e kc ks x m o B i : Nat} {Q : Option Value → zH → Prop} {I : Nat → Nat → Int32} {J : Nat → Nat → Int64} {R : Nat → Nat → Option Nat} {K : Nat → Nat × Nat} {n : Nat} {v w q nx lo M t c : Nat} {lk sq : Nat → Nat} {tl : Nat → Nat} {tt : Nat → Nat → Nat} {vl : Vt} {st : Stt} {tp : Tpt} {lw : Lwt} {sp : Spt} {ap : Nat} {sg : Sgt} (C : CIv G I R K n x m v w q nx lo M lk sq vl st tp lw sp ap sg B) (N : MIv G I J R K n m t c tl tt vl st tp lw sp ap sg B) (O : hOut G R K n o) (ho : m + 21 ≤ o) (hB : B + 40 < 100000) (hi : i + 6 ≤ G.2.2.2.2.2.2.1) (hL : G.2.2.2.2.2.2.1 ≤ 3072) (next : ∀ {kc' ks' : Nat} {I : Nat → Nat → Int32} {J : Nat → Nat → Int64} {R : Nat → Nat → Option Nat} {K : Nat → Nat × Nat} {n : Nat} {v w q nx lo M t c : Nat} {lk sq : Nat → Nat} {tl : Nat → Nat} {tt : Nat → Nat → Nat} {vl : Vt} {st : Stt} {tp : Tpt} {lw : Lwt} {sp : Spt} {ap : Nat} {sg : Sgt}, kc ≤ kc' → ks ≤ ks' → CIv G I R K n x m v w q nx lo M lk sq vl st tp lw sp ap sg (B + 30) → MIv G I J R K n m t c tl tt vl st tp lw sp ap sg (B + 30) → hOut G R K n o → zV G (e + 61) mL_law kc' ks' 23 [(0, .ref (G.2.2.2.2.2.1 3)), (1, .ref x), (2, .ref m), (3, .ref o), (4, .int (nI i + 6))] [] (I, J, R, K, n) Q) : zV G (e + 61) mL_law (kc + 4) (ks + 300) 23 [(0, .ref (G.2.2.2.2.2.1 3)), (1, .ref x), (2, .ref m), (3, .ref o), (4, .int (nI i))] [] (I, J, R, K, n) Q := by
  have vp : ∀ k : Nat, k < 6 → vp_in (nI (i + k)) G.2.2.2.2.2.2.1 := fun k hk => (tk_in (by omega) (by omega)).mpr (by omega)
  have v0 : vp_in (nI i) G.2.2.2.2.2.2.1 := vp 0 (by omega)
  have v1 : vp_in (nI i + 1) G.2.2.2.2.2.2.1 := by rw [nI_1]; exact vp 1 (by omega)
  have v2 : vp_in (nI i + 2) G.2.2.2.2.2.2.1 := by rw [show (nI i + 2 : Int32) = nI (i + 2) from nI_add i 2]; exact vp 2 (by omega)
  have v3 : vp_in (nI i + 3) G.2.2.2.2.2.2.1 := by rw [show (nI i + 3 : Int32) = nI (i + 3) from nI_add i 3]; exact vp 3 (by omega)
  have v4 : vp_in (nI i + 4) G.2.2.2.2.2.2.1 := by rw [show (nI i + 4 : Int32) = nI (i + 4) from nI_add i 4]; exact vp 4 (by omega)
  have v5 : vp_in (nI i + 5) G.2.2.2.2.2.2.1 := by rw [show (nI i + 5 : Int32) = nI (i + 5) from nI_add i 5]; exact vp 5 (by omega)
  refine wM_law_23 x v w q m t c o C.X N.S_ O _ ⟨fun h => ?_, fun _ => ⟨v0, ?_⟩⟩
  · rw [show (6 : Int32) = nI 6 from rfl, tk_sub (by omega), tk_lt (by omega) (by omega)] at h
    omega
  refine ⟨?_, ?_, ?_, ?_, ?_, ?_, ?_, ?_, ?_, ?_, ?_, ?_, ?_, ?_, ?_, ?_, ?_, ?_, ?_, ?_, ?_, ?_, ?_, ?_, ?_, ?_, ?_, ?_, ?_, ?_, ?_, ?_, ?_, ?_, ?_, ?_, ?_, ?_, ?_, ?_, ?_⟩
  · intro _
    obtain ⟨r, vl', st', tp', lw', sp', ap', sg', B', hB', X, Y⟩ := b_feed (e := e) (J := J) (t := t) (c := c) (tl := tl) (tt := tt) (p1 := G.2.2.2.2.2.2.2 (nI i + 1 : Int32).toNatClampNeg) (p2 := G.2.2.2.2.2.2.2 (nI i + 2 : Int32).toNatClampNeg) (p3 := G.2.2.2.2.2.2.2 (nI i + 3 : Int32).toNatClampNeg) (p4 := G.2.2.2.2.2.2.2 (nI i + 4 : Int32).toNatClampNeg) (p5 := G.2.2.2.2.2.2.2 (nI i + 5 : Int32).toNatClampNeg) C hB
    refine ⟨v1, v2, v3, v4, v5, ?_⟩
    refine X _ ?_
    intro I1 v' w' q' nx' lo' M' lk' sq' C1 f1
    have N1 := N.outX (I' := I1) (J' := J) (R' := R) (K' := K) (n' := n) (fun b b1 b2 => ⟨f1 b b1 b2, rfl, rfl⟩) (fun _ _ => rfl) (Nat.le_refl _)
    refine ⟨_, _, rfl, rfl, v1, v2, v3, v4, v5, ?_⟩
    refine Y _ _ _ _ _ N1 _ ?_
    intro I2 N2 f2
    exact ⟨_, _, rfl, rfl, fun _ => next (by omega) (by omega) ((C1.out f2 (fun _ _ => rfl)).wide hB' (by omega)) (N2.wide hB' (by omega)) O, fun h => absurd rfl h⟩
  · intro _
    obtain ⟨r, vl', st', tp', lw', sp', ap', sg', B', hB', X, Y⟩ := b_end (e := e) (J := J) (t := t) (c := c) (tl := tl) (tt := tt) (p := G.2.2.2.2.2.2.2 (nI i + 1 : Int32).toNatClampNeg) C hB
    refine ⟨v1, ?_⟩
    refine X _ ?_
    intro I1 v' w' q' nx' lo' M' lk' sq' C1 f1
    have N1 := N.outX (I' := I1) (J' := J) (R' := R) (K' := K) (n' := n) (fun b b1 b2 => ⟨f1 b b1 b2, rfl, rfl⟩) (fun _ _ => rfl) (Nat.le_refl _)
    refine ⟨_, _, rfl, rfl, v1, ?_⟩
    refine Y _ _ _ _ _ N1 _ ?_
    intro I2 N2 f2
    exact ⟨_, _, rfl, rfl, fun _ => next (by omega) (by omega) ((C1.out f2 (fun _ _ => rfl)).wide hB' (by omega)) (N2.wide hB' (by omega)) O, fun h => absurd rfl h⟩
  · intro _
    obtain ⟨r, vl', st', tp', lw', sp', ap', sg', B', hB', X, Y⟩ := b_fault (e := e) (J := J) (t := t) (c := c) (tl := tl) (tt := tt) (p := G.2.2.2.2.2.2.2 (nI i + 1 : Int32).toNatClampNeg) C hB
    refine ⟨v1, ?_⟩
    refine X _ ?_
    intro I1 J1 R1 v' w' q' nx' lo' M' lk' sq' C1 f1
    have N1 := N.outX (K' := K) (n' := n) f1 (fun _ _ => rfl) (Nat.le_refl _)
    refine ⟨_, _, _, _, rfl, rfl, _, _, _, C1.X, _, _, N1.S_, O, v1, ?_⟩
    refine Y _ _ _ _ _ N1 _ ?_
    intro I2 J2 R2 t2 c2 N2 f2 f3
    have C2 := C1.out (fun b hb => (f2 b hb).1) f3
    exact ⟨_, _, _, _, rfl, rfl, _, _, _, C2.X, _, _, N2.S_, O, fun _ => next (by omega) (by omega) (C2.wide hB' (by omega)) (N2.wide hB' (by omega)) O, fun h => absurd rfl h⟩
  · intro _
    obtain ⟨r, vl', st', tp', lw', sp', ap', sg', B', tl', tt', hB', X, Y⟩ := b_text (e := e) (J := J) (t := t) (c := c) (tl := tl) (tt := tt) (p := G.2.2.2.2.2.2.2 (nI i + 1 : Int32).toNatClampNeg) C hB
    refine ⟨v1, ?_⟩
    refine X _ ?_
    intro I1 J1 R1 K1 n1 v' w' q' nx' lo' M' lk' sq' C1 hn hK f1
    have N1 := N.outX f1 hK hn
    have O1 : hOut G R1 K1 n1 o := ⟨O.1, Nat.lt_of_lt_of_le O.2.1 hn, (hK o O.2.1).trans O.2.2⟩ 
    refine ⟨_, _, _, _, _, _, rfl, rfl, _, _, _, C1.X, _, _, N1.S_, O1, v1, ?_⟩
    refine Y _ _ _ _ _ N1 _ ?_
    intro I2 J2 R2 t2 c2 N2 f2 f3
    have C2 := C1.out (fun b hb => (f2 b hb).1) f3
    exact ⟨_, _, _, _, rfl, rfl, _, _, _, C2.X, _, _, N2.S_, O1, fun _ => next (by omega) (by omega) (C2.wide hB' (by omega)) (N2.wide hB' (by omega)) O1, fun h => absurd rfl h⟩
  · intro _
    refine ⟨v1, v2, ?_⟩
    by_cases hf : ∃ f k : Nat, f < vl.1 ∧ k < 6 ∧ G.2.2.2.2.2.2.2 (nI i + 1 : Int32).toNatClampNeg = nI f ∧ G.2.2.2.2.2.2.2 (nI i + 2 : Int32).toNatClampNeg = nI k
    · obtain ⟨f, k, hf, hk, e1, e2⟩ := hf
      rw [e1, e2]
      refine x_farm_y C O hf hk ?_
      have N1 : MIv G I (zU J o 0 (nI (frmA vl st f k)).toInt64) R K n m t c tl tt vl st tp lw sp ap sg B := N.j (zU_off (by omega))
      refine ⟨_, _, _, _, _, rfl, rfl, _, _, _, C.X, _, _, N1.S_, O, v1, v2, ?_⟩
      refine y_farm_y N1 hf hk ?_
      intro I2 N2 e0 f2
      refine ⟨_, _, rfl, rfl, ?_⟩
      refine y_thrown N2.S_ ?_
      refine ⟨_, _, rfl, rfl, ?_⟩
      rw [e0]
      have z : lg_cmp (zU J o 0 (nI (frmA vl st f k)).toInt64 o (0 : Int32).toNatClampNeg) (nI (frmA vl st f k)).toInt64 = 0 := by
        rw [show (0 : Int32).toNatClampNeg = 0 from rfl, zU_self]
        simp [lg_cmp]
      exact ⟨fun _ => ⟨fun _ => ⟨(tk_in (n := 0) (by omega) (by omega)).mpr (by omega), fun _ => next (by omega) (by omega) ((C.out f2 (fun _ _ => rfl)).wide (by omega) (by omega)) (N2.wide (by omega) (by omega)) O, fun h => absurd z h⟩, fun h => absurd rfl h⟩, fun h => absurd rfl h⟩
    · refine x_farm_n C hf ?_
      intro n' hn'
      have C1 := C.grow (K' := fun b => if b < n then K b else (99, 0)) (n' := n') (fun b hb => if_pos hb) hn'
      have N1 : MIv G I J R (fun b => if b < n then K b else (99, 0)) n' m t c tl tt vl st tp lw sp ap sg B := N.outX (fun _ _ _ => ⟨rfl, rfl, rfl⟩) (fun b hb => if_pos hb) hn'
      have O1 : hOut G R (fun b => if b < n then K b else (99, 0)) n' o := ⟨O.1, Nat.lt_of_lt_of_le O.2.1 hn', (if_pos O.2.1).trans O.2.2⟩
      refine ⟨_, _, _, _, _, rfl, rfl, _, _, _, C1.X, _, _, N1.S_, O1, v1, v2, ?_⟩
      refine y_farm_n N1 hf ?_
      intro I2 N2 e0 f2
      refine ⟨_, _, rfl, rfl, ?_⟩
      refine y_thrown N2.S_ ?_
      refine ⟨_, _, rfl, rfl, ?_⟩
      rw [e0]
      exact ⟨fun _ => ⟨fun h => absurd h (by decide), fun _ => next (by omega) (by omega) ((C1.out f2 (fun _ _ => rfl)).wide (by omega) (by omega)) (N2.wide (by omega) (by omega)) O1⟩, fun h => absurd rfl h⟩
  · intro _
    obtain ⟨r, vl', st', tp', lw', sp', ap', sg', B', hB', X, Y⟩ := b_wrong (e := e) (J := J) (t := t) (c := c) (tl := tl) (tt := tt) (p := G.2.2.2.2.2.2.2 (nI i + 1 : Int32).toNatClampNeg) (p2 := G.2.2.2.2.2.2.2 (nI i + 2 : Int32).toNatClampNeg) C hB
    refine ⟨v1, v2, ?_⟩
    refine X _ ?_
    intro I1 v' w' q' nx' lo' M' lk' sq' C1 f1
    have N1 := N.outX (I' := I1) (J' := J) (R' := R) (K' := K) (n' := n) (fun b b1 b2 => ⟨f1 b b1 b2, rfl, rfl⟩) (fun _ _ => rfl) (Nat.le_refl _)
    refine ⟨_, _, rfl, rfl, v1, v2, ?_⟩
    refine Y _ _ _ _ _ N1 _ ?_
    intro I2 J2 R2 t2 c2 N2 f2 f3
    have C2 := C1.out (fun b hb => (f2 b hb).1) f3
    exact ⟨_, _, _, _, rfl, rfl, _, _, _, C2.X, _, _, N2.S_, O, fun _ => next (by omega) (by omega) (C2.wide hB' (by omega)) (N2.wide hB' (by omega)) O, fun h => absurd rfl h⟩
  · intro _
    obtain ⟨r, vl', st', tp', lw', sp', ap', sg', B', hB', X, Y⟩ := b_law (e := e) (J := J) (t := t) (c := c) (tl := tl) (tt := tt) (p := G.2.2.2.2.2.2.2 (nI i + 1 : Int32).toNatClampNeg) C hB
    refine ⟨v1, ?_⟩
    refine X _ ?_
    intro I1 J1 R1 v' w' q' nx' lo' M' lk' sq' C1 f1
    have N1 := N.outX (K' := K) (n' := n) f1 (fun _ _ => rfl) (Nat.le_refl _)
    refine ⟨_, _, _, _, rfl, rfl, _, _, _, C1.X, _, _, N1.S_, O, v1, ?_⟩
    refine Y _ _ _ _ _ N1 _ ?_
    intro I2 N2 f2
    exact ⟨_, _, rfl, rfl, fun _ => next (by omega) (by omega) ((C1.out f2 (fun _ _ => rfl)).wide hB' (by omega)) (N2.wide hB' (by omega)) O, fun h => absurd rfl h⟩
  · intro _
    obtain ⟨r, vl', st', tp', lw', sp', ap', sg', B', hB', X, Y⟩ := b_apples (e := e) (J := J) (t := t) (c := c) (tl := tl) (tt := tt) (p := G.2.2.2.2.2.2.2 (nI i + 1 : Int32).toNatClampNeg) C hB
    refine ⟨v1, ?_⟩
    refine X _ ?_
    intro I1 v' w' q' nx' lo' M' lk' sq' C1 f1
    have N1 := N.outX (I' := I1) (J' := J) (R' := R) (K' := K) (n' := n) (fun b b1 b2 => ⟨f1 b b1 b2, rfl, rfl⟩) (fun _ _ => rfl) (Nat.le_refl _)
    refine ⟨_, _, rfl, rfl, v1, ?_⟩
    refine Y _ _ _ _ _ N1 _ ?_
    intro I2 N2 f2
    exact ⟨_, _, rfl, rfl, fun _ => next (by omega) (by omega) ((C1.out f2 (fun _ _ => rfl)).wide hB' (by omega)) (N2.wide hB' (by omega)) O, fun h => absurd rfl h⟩
  · intro _
    obtain ⟨r, vl', st', tp', lw', sp', ap', sg', B', hB', X, Y⟩ := b_forgive (e := e) (J := J) (t := t) (c := c) (tl := tl) (tt := tt) (p := G.2.2.2.2.2.2.2 (nI i + 1 : Int32).toNatClampNeg) C hB
    refine ⟨v1, ?_⟩
    refine X _ ?_
    intro I1 v' w' q' nx' lo' M' lk' sq' C1 f1
    have N1 := N.outX (I' := I1) (J' := J) (R' := R) (K' := K) (n' := n) (fun b b1 b2 => ⟨f1 b b1 b2, rfl, rfl⟩) (fun _ _ => rfl) (Nat.le_refl _)
    refine ⟨_, _, rfl, rfl, v1, ?_⟩
    refine Y _ _ _ _ _ N1 _ ?_
    intro I2 J2 R2 t2 c2 N2 f2 f3
    have C2 := C1.out (fun b hb => (f2 b hb).1) f3
    exact ⟨_, _, _, _, rfl, rfl, _, _, _, C2.X, _, _, N2.S_, O, fun _ => next (by omega) (by omega) (C2.wide hB' (by omega)) (N2.wide hB' (by omega)) O, fun h => absurd rfl h⟩
  · intro _
    obtain ⟨r, vl', st', tp', lw', sp', ap', sg', B', hB', X, Y⟩ := b_paint (e := e) (J := J) (t := t) (c := c) (tl := tl) (tt := tt) (p := G.2.2.2.2.2.2.2 (nI i + 1 : Int32).toNatClampNeg) (p2 := G.2.2.2.2.2.2.2 (nI i + 2 : Int32).toNatClampNeg) C hB
    refine ⟨v1, v2, ?_⟩
    refine X _ ?_
    intro I1 v' w' q' nx' lo' M' lk' sq' C1 f1
    have N1 := N.outX (I' := I1) (J' := J) (R' := R) (K' := K) (n' := n) (fun b b1 b2 => ⟨f1 b b1 b2, rfl, rfl⟩) (fun _ _ => rfl) (Nat.le_refl _)
    refine ⟨_, _, rfl, rfl, v1, v2, ?_⟩
    refine Y _ _ _ _ _ N1 _ ?_
    intro I2 N2 f2
    exact ⟨_, _, rfl, rfl, fun _ => next (by omega) (by omega) ((C1.out f2 (fun _ _ => rfl)).wide hB' (by omega)) (N2.wide hB' (by omega)) O, fun h => absurd rfl h⟩
  · intro _
    obtain ⟨r, vl', st', tp', lw', sp', ap', sg', B', hB', X, Y⟩ := b_inspect (e := e) (J := J) (t := t) (c := c) (tl := tl) (tt := tt) (p := G.2.2.2.2.2.2.2 (nI i + 1 : Int32).toNatClampNeg) C hB
    refine ⟨v1, ?_⟩
    refine X _ ?_
    intro I1 v' w' q' nx' lo' M' lk' sq' C1 f1
    have N1 := N.outX (I' := I1) (J' := J) (R' := R) (K' := K) (n' := n) (fun b b1 b2 => ⟨f1 b b1 b2, rfl, rfl⟩) (fun _ _ => rfl) (Nat.le_refl _)
    refine ⟨_, _, rfl, rfl, v1, ?_⟩
    refine Y _ _ _ _ _ N1 _ ?_
    intro I2 N2 f2
    exact ⟨_, _, rfl, rfl, fun _ => next (by omega) (by omega) ((C1.out f2 (fun _ _ => rfl)).wide hB' (by omega)) (N2.wide hB' (by omega)) O, fun h => absurd rfl h⟩
  · intro _
    obtain ⟨r, vl', st', tp', lw', sp', ap', sg', B', hB', X, Y⟩ := b_sin (e := e) (J := J) (t := t) (c := c) (tl := tl) (tt := tt) (p := G.2.2.2.2.2.2.2 (nI i + 1 : Int32).toNatClampNeg) (p2 := G.2.2.2.2.2.2.2 (nI i + 2 : Int32).toNatClampNeg) (p3 := G.2.2.2.2.2.2.2 (nI i + 3 : Int32).toNatClampNeg) C hB
    refine ⟨v1, v2, v3, ?_⟩
    refine X _ ?_
    intro I1 v' w' q' nx' lo' M' lk' sq' C1 f1
    have N1 := N.outX (I' := I1) (J' := J) (R' := R) (K' := K) (n' := n) (fun b b1 b2 => ⟨f1 b b1 b2, rfl, rfl⟩) (fun _ _ => rfl) (Nat.le_refl _)
    refine ⟨_, _, rfl, rfl, v1, v2, v3, ?_⟩
    refine Y _ _ _ _ _ N1 _ ?_
    intro I2 N2 f2
    exact ⟨_, _, rfl, rfl, fun _ => next (by omega) (by omega) ((C1.out f2 (fun _ _ => rfl)).wide hB' (by omega)) (N2.wide hB' (by omega)) O, fun h => absurd rfl h⟩
  · intro _
    obtain ⟨r, vl', st', tp', lw', sp', ap', sg', B', hB', X, Y⟩ := b_buy (e := e) (J := J) (t := t) (c := c) (tl := tl) (tt := tt) (p := G.2.2.2.2.2.2.2 (nI i + 1 : Int32).toNatClampNeg) C hB
    refine ⟨v1, ?_⟩
    refine X _ ?_
    intro I1 v' w' q' nx' lo' M' lk' sq' C1 f1
    have N1 := N.outX (I' := I1) (J' := J) (R' := R) (K' := K) (n' := n) (fun b b1 b2 => ⟨f1 b b1 b2, rfl, rfl⟩) (fun _ _ => rfl) (Nat.le_refl _)
    refine ⟨_, _, rfl, rfl, v1, ?_⟩
    refine Y _ _ _ _ _ N1 _ ?_
    intro I2 N2 f2
    exact ⟨_, _, rfl, rfl, fun _ => next (by omega) (by omega) ((C1.out f2 (fun _ _ => rfl)).wide hB' (by omega)) (N2.wide hB' (by omega)) O, fun h => absurd rfl h⟩
  · intro _
    obtain ⟨r, vl', st', tp', lw', sp', ap', sg', B', hB', X, Y⟩ := b_give (e := e) (J := J) (t := t) (c := c) (tl := tl) (tt := tt) (p := G.2.2.2.2.2.2.2 (nI i + 1 : Int32).toNatClampNeg) C hB
    refine ⟨v1, ?_⟩
    refine X _ ?_
    intro I1 v' w' q' nx' lo' M' lk' sq' C1 f1
    have N1 := N.outX (I' := I1) (J' := J) (R' := R) (K' := K) (n' := n) (fun b b1 b2 => ⟨f1 b b1 b2, rfl, rfl⟩) (fun _ _ => rfl) (Nat.le_refl _)
    refine ⟨_, _, rfl, rfl, v1, ?_⟩
    refine Y _ _ _ _ _ N1 _ ?_
    intro I2 N2 f2
    exact ⟨_, _, rfl, rfl, fun _ => next (by omega) (by omega) ((C1.out f2 (fun _ _ => rfl)).wide hB' (by omega)) (N2.wide hB' (by omega)) O, fun h => absurd rfl h⟩
  · intro _
    obtain ⟨r, vl', st', tp', lw', sp', ap', sg', B', hB', X, Y⟩ := b_day (e := e) (J := J) (t := t) (c := c) (tl := tl) (tt := tt)  C hB
    refine X _ ?_
    intro I1 v' w' q' nx' lo' M' lk' sq' C1 f1
    have N1 := N.outX (I' := I1) (J' := J) (R' := R) (K' := K) (n' := n) (fun b b1 b2 => ⟨f1 b b1 b2, rfl, rfl⟩) (fun _ _ => rfl) (Nat.le_refl _)
    refine ⟨_, _, rfl, rfl, ?_⟩
    refine Y _ _ _ _ _ N1 _ ?_
    intro I2 N2 f2
    exact ⟨_, _, rfl, rfl, fun _ => next (by omega) (by omega) ((C1.out f2 (fun _ _ => rfl)).wide hB' (by omega)) (N2.wide hB' (by omega)) O, fun h => absurd rfl h⟩
  · intro _
    obtain ⟨r, vl', st', tp', lw', sp', ap', sg', B', hB', X, Y⟩ := b_years (e := e) (J := J) (t := t) (c := c) (tl := tl) (tt := tt) (p := G.2.2.2.2.2.2.2 (nI i + 1 : Int32).toNatClampNeg) (s := (((G.2.2.2.2.2.2.2 (nI i + 2 : Int32).toNatClampNeg : Int32).toInt64 : Int64) <<< ((32 : Int32).toInt64 &&& 63)) ||| (((G.2.2.2.2.2.2.2 (nI i + 3 : Int32).toNatClampNeg : Int32).toInt64) &&& 4294967295)) C hB
    refine ⟨v1, v2, v3, ?_⟩
    refine X _ ?_
    intro I1 J1 R1 v' w' q' nx' lo' M' lk' sq' C1 f1
    have N1 := N.outX (K' := K) (n' := n) f1 (fun _ _ => rfl) (Nat.le_refl _)
    refine ⟨_, _, _, _, rfl, rfl, _, _, _, C1.X, _, _, N1.S_, O, v1, v2, v3, ?_⟩
    refine Y _ _ _ _ _ N1 _ ?_
    intro I2 J2 R2 t2 c2 N2 f2 f3
    have C2 := C1.out (fun b hb => (f2 b hb).1) f3
    exact ⟨_, _, _, _, rfl, rfl, _, _, _, C2.X, _, _, N2.S_, O, fun _ => next (by omega) (by omega) (C2.wide hB' (by omega)) (N2.wide hB' (by omega)) O, fun h => absurd rfl h⟩
  · intro _
    obtain ⟨r, vl', st', tp', lw', sp', ap', sg', B', hB', X, Y⟩ := b_undo (e := e) (J := J) (t := t) (c := c) (tl := tl) (tt := tt)  C hB
    refine X _ ?_
    intro I1 v' w' q' nx' lo' M' lk' sq' C1 f1
    have N1 := N.outX (I' := I1) (J' := J) (R' := R) (K' := K) (n' := n) (fun b b1 b2 => ⟨f1 b b1 b2, rfl, rfl⟩) (fun _ _ => rfl) (Nat.le_refl _)
    refine ⟨_, _, rfl, rfl, ?_⟩
    refine Y _ _ _ _ _ N1 _ ?_
    intro I2 N2 f2
    exact ⟨_, _, rfl, rfl, fun _ => next (by omega) (by omega) ((C1.out f2 (fun _ _ => rfl)).wide hB' (by omega)) (N2.wide hB' (by omega)) O, fun h => absurd rfl h⟩
  · intro _
    obtain ⟨r, vl', st', tp', lw', sp', ap', sg', B', hB', X, Y⟩ := b_log (e := e) (J := J) (t := t) (c := c) (tl := tl) (tt := tt) (p := G.2.2.2.2.2.2.2 (nI i + 1 : Int32).toNatClampNeg) (p2 := G.2.2.2.2.2.2.2 (nI i + 2 : Int32).toNatClampNeg) C hB
    refine ⟨v1, v2, ?_⟩
    refine X _ ?_
    intro I1 v' w' q' nx' lo' M' lk' sq' C1 f1
    have N1 := N.outX (I' := I1) (J' := J) (R' := R) (K' := K) (n' := n) (fun b b1 b2 => ⟨f1 b b1 b2, rfl, rfl⟩) (fun _ _ => rfl) (Nat.le_refl _)
    refine ⟨_, _, rfl, rfl, v1, v2, ?_⟩
    refine Y _ _ _ _ _ N1 _ ?_
    intro I2 N2 f2
    exact ⟨_, _, rfl, rfl, fun _ => next (by omega) (by omega) ((C1.out f2 (fun _ _ => rfl)).wide hB' (by omega)) (N2.wide hB' (by omega)) O, fun h => absurd rfl h⟩
  · intro _
    obtain ⟨r, vl', st', tp', lw', sp', ap', sg', B', hB', X, Y⟩ := b_step (e := e) (J := J) (t := t) (c := c) (tl := tl) (tt := tt) (p := G.2.2.2.2.2.2.2 (nI i + 1 : Int32).toNatClampNeg) (p2 := G.2.2.2.2.2.2.2 (nI i + 2 : Int32).toNatClampNeg) (p3 := G.2.2.2.2.2.2.2 (nI i + 3 : Int32).toNatClampNeg) C hB
    refine ⟨v1, v2, v3, ?_⟩
    refine X _ ?_
    intro I1 v' w' q' nx' lo' M' lk' sq' C1 f1
    have N1 := N.outX (I' := I1) (J' := J) (R' := R) (K' := K) (n' := n) (fun b b1 b2 => ⟨f1 b b1 b2, rfl, rfl⟩) (fun _ _ => rfl) (Nat.le_refl _)
    refine ⟨_, _, rfl, rfl, v1, v2, v3, ?_⟩
    refine Y _ _ _ _ _ N1 _ ?_
    intro I2 N2 f2
    exact ⟨_, _, rfl, rfl, fun _ => next (by omega) (by omega) ((C1.out f2 (fun _ _ => rfl)).wide hB' (by omega)) (N2.wide hB' (by omega)) O, fun h => absurd rfl h⟩
  · intro _
    obtain ⟨r, vl', st', tp', lw', sp', ap', sg', B', hB', X, Y⟩ := b_run (e := e) (J := J) (t := t) (c := c) (tl := tl) (tt := tt) (p := G.2.2.2.2.2.2.2 (nI i + 1 : Int32).toNatClampNeg) (p2 := G.2.2.2.2.2.2.2 (nI i + 2 : Int32).toNatClampNeg) C hB
    refine ⟨v1, v2, ?_⟩
    refine X _ ?_
    intro I1 v' w' q' nx' lo' M' lk' sq' C1 f1
    have N1 := N.outX (I' := I1) (J' := J) (R' := R) (K' := K) (n' := n) (fun b b1 b2 => ⟨f1 b b1 b2, rfl, rfl⟩) (fun _ _ => rfl) (Nat.le_refl _)
    refine ⟨_, _, rfl, rfl, v1, v2, ?_⟩
    refine Y _ _ _ _ _ N1 _ ?_
    intro I2 J2 R2 t2 c2 N2 f2 f3
    have C2 := C1.out (fun b hb => (f2 b hb).1) f3
    exact ⟨_, _, _, _, rfl, rfl, _, _, _, C2.X, _, _, N2.S_, O, fun _ => next (by omega) (by omega) (C2.wide hB' (by omega)) (N2.wide hB' (by omega)) O, fun h => absurd rfl h⟩
  · intro _
    obtain ⟨r, vl', st', tp', lw', sp', ap', sg', B', hB', X, Y⟩ := b_perform (e := e) (J := J) (t := t) (c := c) (tl := tl) (tt := tt) (p := G.2.2.2.2.2.2.2 (nI i + 1 : Int32).toNatClampNeg) C hB
    refine ⟨v1, ?_⟩
    refine X _ ?_
    intro I1 v' w' q' nx' lo' M' lk' sq' C1 f1
    have N1 := N.outX (I' := I1) (J' := J) (R' := R) (K' := K) (n' := n) (fun b b1 b2 => ⟨f1 b b1 b2, rfl, rfl⟩) (fun _ _ => rfl) (Nat.le_refl _)
    refine ⟨_, _, rfl, rfl, v1, ?_⟩
    refine Y _ _ _ _ _ N1 _ ?_
    intro I2 J2 R2 t2 c2 N2 f2 f3
    have C2 := C1.out (fun b hb => (f2 b hb).1) f3
    exact ⟨_, _, _, _, rfl, rfl, _, _, _, C2.X, _, _, N2.S_, O, fun _ => next (by omega) (by omega) (C2.wide hB' (by omega)) (N2.wide hB' (by omega)) O, fun h => absurd rfl h⟩
  · intro _
    obtain ⟨r, vl', st', tp', lw', sp', ap', sg', B', hB', X, Y⟩ := b_least (e := e) (J := J) (t := t) (c := c) (tl := tl) (tt := tt) (p1 := G.2.2.2.2.2.2.2 (nI i + 1 : Int32).toNatClampNeg) (p2 := G.2.2.2.2.2.2.2 (nI i + 2 : Int32).toNatClampNeg) C hB
    refine ⟨v1, v2, ?_⟩
    refine X _ ?_
    intro I1 v' w' q' nx' lo' M' lk' sq' C1 f1
    have N1 := N.outX (I' := I1) (J' := J) (R' := R) (K' := K) (n' := n) (fun b b1 b2 => ⟨f1 b b1 b2, rfl, rfl⟩) (fun _ _ => rfl) (Nat.le_refl _)
    refine ⟨_, _, rfl, rfl, v1, v2, ?_⟩
    refine Y _ _ _ _ _ N1 _ ?_
    intro I2 J2 R2 t2 c2 N2 f2 f3
    have C2 := C1.out (fun b hb => (f2 b hb).1) f3
    exact ⟨_, _, _, _, rfl, rfl, _, _, _, C2.X, _, _, N2.S_, O, fun _ => next (by omega) (by omega) (C2.wide hB' (by omega)) (N2.wide hB' (by omega)) O, fun h => absurd rfl h⟩
  · intro _
    obtain ⟨r, vl', st', tp', lw', sp', ap', sg', B', hB', X, Y⟩ := b_every (e := e) (J := J) (t := t) (c := c) (tl := tl) (tt := tt) (p1 := G.2.2.2.2.2.2.2 (nI i + 1 : Int32).toNatClampNeg) C hB
    refine ⟨v1, ?_⟩
    refine X _ ?_
    intro I1 v' w' q' nx' lo' M' lk' sq' C1 f1
    have N1 := N.outX (I' := I1) (J' := J) (R' := R) (K' := K) (n' := n) (fun b b1 b2 => ⟨f1 b b1 b2, rfl, rfl⟩) (fun _ _ => rfl) (Nat.le_refl _)
    refine ⟨_, _, rfl, rfl, v1, ?_⟩
    refine Y _ _ _ _ _ N1 _ ?_
    intro I2 J2 R2 t2 c2 N2 f2 f3
    have C2 := C1.out (fun b hb => (f2 b hb).1) f3
    exact ⟨_, _, _, _, rfl, rfl, _, _, _, C2.X, _, _, N2.S_, O, fun _ => next (by omega) (by omega) (C2.wide hB' (by omega)) (N2.wide hB' (by omega)) O, fun h => absurd rfl h⟩
  · intro _
    obtain ⟨r, vl', st', tp', lw', sp', ap', sg', B', hB', X, Y⟩ := b_richest (e := e) (J := J) (t := t) (c := c) (tl := tl) (tt := tt) (p1 := G.2.2.2.2.2.2.2 (nI i + 1 : Int32).toNatClampNeg) (p2 := G.2.2.2.2.2.2.2 (nI i + 2 : Int32).toNatClampNeg) C hB
    refine ⟨v1, v2, ?_⟩
    refine X _ ?_
    intro I1 v' w' q' nx' lo' M' lk' sq' C1 f1
    have N1 := N.outX (I' := I1) (J' := J) (R' := R) (K' := K) (n' := n) (fun b b1 b2 => ⟨f1 b b1 b2, rfl, rfl⟩) (fun _ _ => rfl) (Nat.le_refl _)
    refine ⟨_, _, rfl, rfl, v1, v2, ?_⟩
    refine Y _ _ _ _ _ N1 _ ?_
    intro I2 J2 R2 t2 c2 N2 f2 f3
    have C2 := C1.out (fun b hb => (f2 b hb).1) f3
    exact ⟨_, _, _, _, rfl, rfl, _, _, _, C2.X, _, _, N2.S_, O, fun _ => next (by omega) (by omega) (C2.wide hB' (by omega)) (N2.wide hB' (by omega)) O, fun h => absurd rfl h⟩
  · intro _
    obtain ⟨r, vl', st', tp', lw', sp', ap', sg', B', hB', X, Y⟩ := b_pairs (e := e) (J := J) (t := t) (c := c) (tl := tl) (tt := tt) (p1 := G.2.2.2.2.2.2.2 (nI i + 1 : Int32).toNatClampNeg) C hB
    refine ⟨v1, ?_⟩
    refine X _ ?_
    intro I1 v' w' q' nx' lo' M' lk' sq' C1 f1
    have N1 := N.outX (I' := I1) (J' := J) (R' := R) (K' := K) (n' := n) (fun b b1 b2 => ⟨f1 b b1 b2, rfl, rfl⟩) (fun _ _ => rfl) (Nat.le_refl _)
    refine ⟨_, _, rfl, rfl, v1, ?_⟩
    refine Y _ _ _ _ _ N1 _ ?_
    intro I2 J2 R2 t2 c2 N2 f2 f3
    have C2 := C1.out (fun b hb => (f2 b hb).1) f3
    exact ⟨_, _, _, _, rfl, rfl, _, _, _, C2.X, _, _, N2.S_, O, fun _ => next (by omega) (by omega) (C2.wide hB' (by omega)) (N2.wide hB' (by omega)) O, fun h => absurd rfl h⟩
  · intro _
    obtain ⟨r, vl', st', tp', lw', sp', ap', sg', B', hB', X, Y⟩ := b_seen (e := e) (J := J) (t := t) (c := c) (tl := tl) (tt := tt) (p := G.2.2.2.2.2.2.2 (nI i + 1 : Int32).toNatClampNeg) (p2 := G.2.2.2.2.2.2.2 (nI i + 2 : Int32).toNatClampNeg) (p3 := if (G.2.2.2.2.2.2.2 (nI i + 3 : Int32).toNatClampNeg : Int32) = 0 then 0 else 1) C hB (by split; exact Or.inl rfl; exact Or.inr rfl)
    refine ⟨v1, v2, v3, ?_⟩
    refine X _ ?_
    intro I1 v' w' q' nx' lo' M' lk' sq' C1 f1
    have N1 := N.outX (I' := I1) (J' := J) (R' := R) (K' := K) (n' := n) (fun b b1 b2 => ⟨f1 b b1 b2, rfl, rfl⟩) (fun _ _ => rfl) (Nat.le_refl _)
    refine ⟨_, _, rfl, rfl, v1, v2, v3, ?_⟩
    refine Y _ _ _ _ _ N1 _ ?_
    intro I2 N2 f2
    exact ⟨_, _, rfl, rfl, fun _ => next (by omega) (by omega) ((C1.out f2 (fun _ _ => rfl)).wide hB' (by omega)) (N2.wide hB' (by omega)) O, fun h => absurd rfl h⟩
  · intro _
    obtain ⟨r, vl', st', tp', lw', sp', ap', sg', B', hB', X, Y⟩ := b_weights (e := e) (J := J) (t := t) (c := c) (tl := tl) (tt := tt) (p := G.2.2.2.2.2.2.2 (nI i + 1 : Int32).toNatClampNeg) (p2 := G.2.2.2.2.2.2.2 (nI i + 2 : Int32).toNatClampNeg) C hB
    refine ⟨v1, v2, ?_⟩
    refine X _ ?_
    intro I1 v' w' q' nx' lo' M' lk' sq' C1 f1
    have N1 := N.outX (I' := I1) (J' := J) (R' := R) (K' := K) (n' := n) (fun b b1 b2 => ⟨f1 b b1 b2, rfl, rfl⟩) (fun _ _ => rfl) (Nat.le_refl _)
    refine ⟨_, _, rfl, rfl, v1, v2, ?_⟩
    refine Y _ _ _ _ _ N1 _ ?_
    intro I2 J2 R2 t2 c2 N2 f2 f3
    have C2 := C1.out (fun b hb => (f2 b hb).1) f3
    exact ⟨_, _, _, _, rfl, rfl, _, _, _, C2.X, _, _, N2.S_, O, fun _ => next (by omega) (by omega) (C2.wide hB' (by omega)) (N2.wide hB' (by omega)) O, fun h => absurd rfl h⟩
  · intro _
    obtain ⟨r, vl', st', tp', lw', sp', ap', sg', B', hB', X, Y⟩ := b_ask (e := e) (J := J) (t := t) (c := c) (tl := tl) (tt := tt) (p := G.2.2.2.2.2.2.2 (nI i + 1 : Int32).toNatClampNeg) C hB
    refine ⟨v1, ?_⟩
    refine X _ ?_
    intro I1 v' w' q' nx' lo' M' lk' sq' C1 f1
    have N1 := N.outX (I' := I1) (J' := J) (R' := R) (K' := K) (n' := n) (fun b b1 b2 => ⟨f1 b b1 b2, rfl, rfl⟩) (fun _ _ => rfl) (Nat.le_refl _)
    refine ⟨_, _, rfl, rfl, v1, ?_⟩
    refine Y _ _ _ _ _ N1 _ ?_
    intro I2 J2 R2 t2 c2 N2 f2 f3
    have C2 := C1.out (fun b hb => (f2 b hb).1) f3
    exact ⟨_, _, _, _, rfl, rfl, _, _, _, C2.X, _, _, N2.S_, O, fun _ => next (by omega) (by omega) (C2.wide hB' (by omega)) (N2.wide hB' (by omega)) O, fun h => absurd rfl h⟩
  · intro _
    obtain ⟨r, vl', st', tp', lw', sp', ap', sg', B', hB', X, Y⟩ := b_ring (e := e) (J := J) (t := t) (c := c) (tl := tl) (tt := tt)  C hB
    refine X _ ?_
    intro I1 v' w' q' nx' lo' M' lk' sq' C1 f1
    have N1 := N.outX (I' := I1) (J' := J) (R' := R) (K' := K) (n' := n) (fun b b1 b2 => ⟨f1 b b1 b2, rfl, rfl⟩) (fun _ _ => rfl) (Nat.le_refl _)
    refine ⟨_, _, rfl, rfl, ?_⟩
    refine Y _ _ _ _ _ N1 _ ?_
    intro I2 N2 f2
    exact ⟨_, _, rfl, rfl, fun _ => next (by omega) (by omega) ((C1.out f2 (fun _ _ => rfl)).wide hB' (by omega)) (N2.wide hB' (by omega)) O, fun h => absurd rfl h⟩
  · intro _
    obtain ⟨r, vl', st', tp', lw', sp', ap', sg', B', hB', X, Y⟩ := b_chain (e := e) (J := J) (t := t) (c := c) (tl := tl) (tt := tt) (p := G.2.2.2.2.2.2.2 (nI i + 1 : Int32).toNatClampNeg) (p2 := G.2.2.2.2.2.2.2 (nI i + 2 : Int32).toNatClampNeg) C hB
    refine ⟨v1, v2, ?_⟩
    refine X _ ?_
    intro I1 v' w' q' nx' lo' M' lk' sq' C1 f1
    have N1 := N.outX (I' := I1) (J' := J) (R' := R) (K' := K) (n' := n) (fun b b1 b2 => ⟨f1 b b1 b2, rfl, rfl⟩) (fun _ _ => rfl) (Nat.le_refl _)
    refine ⟨_, _, rfl, rfl, v1, v2, ?_⟩
    refine Y _ _ _ _ _ N1 _ ?_
    intro I2 N2 f2
    exact ⟨_, _, rfl, rfl, fun _ => next (by omega) (by omega) ((C1.out f2 (fun _ _ => rfl)).wide hB' (by omega)) (N2.wide hB' (by omega)) O, fun h => absurd rfl h⟩
  · intro _
    obtain ⟨r, vl', st', tp', lw', sp', ap', sg', B', hB', X, Y⟩ := b_score (e := e) (J := J) (t := t) (c := c) (tl := tl) (tt := tt) (p := G.2.2.2.2.2.2.2 (nI i + 1 : Int32).toNatClampNeg) (p2 := G.2.2.2.2.2.2.2 (nI i + 2 : Int32).toNatClampNeg) C hB
    refine ⟨v1, v2, ?_⟩
    refine X _ ?_
    intro I1 v' w' q' nx' lo' M' lk' sq' C1 f1
    have N1 := N.outX (I' := I1) (J' := J) (R' := R) (K' := K) (n' := n) (fun b b1 b2 => ⟨f1 b b1 b2, rfl, rfl⟩) (fun _ _ => rfl) (Nat.le_refl _)
    refine ⟨_, _, rfl, rfl, v1, v2, ?_⟩
    refine Y _ _ _ _ _ N1 _ ?_
    intro I2 N2 f2
    exact ⟨_, _, rfl, rfl, fun _ => next (by omega) (by omega) ((C1.out f2 (fun _ _ => rfl)).wide hB' (by omega)) (N2.wide hB' (by omega)) O, fun h => absurd rfl h⟩
  · intro _
    obtain ⟨r, vl', st', tp', lw', sp', ap', sg', B', hB', X, Y⟩ := b_game (e := e) (J := J) (t := t) (c := c) (tl := tl) (tt := tt) (p1 := G.2.2.2.2.2.2.2 (nI i + 1 : Int32).toNatClampNeg) (p2 := G.2.2.2.2.2.2.2 (nI i + 2 : Int32).toNatClampNeg) (p3 := G.2.2.2.2.2.2.2 (nI i + 3 : Int32).toNatClampNeg) (p4 := G.2.2.2.2.2.2.2 (nI i + 4 : Int32).toNatClampNeg) (p5 := G.2.2.2.2.2.2.2 (nI i + 5 : Int32).toNatClampNeg) C hB
    refine ⟨v1, v2, v3, v4, v5, ?_⟩
    refine X _ ?_
    intro I1 v' w' q' nx' lo' M' lk' sq' C1 f1
    have N1 := N.outX (I' := I1) (J' := J) (R' := R) (K' := K) (n' := n) (fun b b1 b2 => ⟨f1 b b1 b2, rfl, rfl⟩) (fun _ _ => rfl) (Nat.le_refl _)
    refine ⟨_, _, rfl, rfl, v1, v2, v3, v4, v5, ?_⟩
    refine Y _ _ _ _ _ N1 _ ?_
    intro I2 J2 R2 t2 c2 N2 f2 f3
    have C2 := C1.out (fun b hb => (f2 b hb).1) f3
    exact ⟨_, _, _, _, rfl, rfl, _, _, _, C2.X, _, _, N2.S_, O, fun _ => next (by omega) (by omega) (C2.wide hB' (by omega)) (N2.wide hB' (by omega)) O, fun h => absurd rfl h⟩
  · intro _
    obtain ⟨r, vl', st', tp', lw', sp', ap', sg', B', hB', X, Y⟩ := b_rests (e := e) (J := J) (t := t) (c := c) (tl := tl) (tt := tt) (p1 := G.2.2.2.2.2.2.2 (nI i + 1 : Int32).toNatClampNeg) (p2 := G.2.2.2.2.2.2.2 (nI i + 2 : Int32).toNatClampNeg) (p3 := G.2.2.2.2.2.2.2 (nI i + 3 : Int32).toNatClampNeg) C hB
    refine ⟨v1, v2, v3, ?_⟩
    refine X _ ?_
    intro I1 v' w' q' nx' lo' M' lk' sq' C1 f1
    have N1 := N.outX (I' := I1) (J' := J) (R' := R) (K' := K) (n' := n) (fun b b1 b2 => ⟨f1 b b1 b2, rfl, rfl⟩) (fun _ _ => rfl) (Nat.le_refl _)
    refine ⟨_, _, rfl, rfl, v1, v2, v3, ?_⟩
    refine Y _ _ _ _ _ N1 _ ?_
    intro I2 J2 R2 t2 c2 N2 f2 f3
    have C2 := C1.out (fun b hb => (f2 b hb).1) f3
    exact ⟨_, _, _, _, rfl, rfl, _, _, _, C2.X, _, _, N2.S_, O, fun _ => next (by omega) (by omega) (C2.wide hB' (by omega)) (N2.wide hB' (by omega)) O, fun h => absurd rfl h⟩
  · intro _
    obtain ⟨r, vl', st', tp', lw', sp', ap', sg', B', hB', X, Y⟩ := b_odds (e := e) (J := J) (t := t) (c := c) (tl := tl) (tt := tt) (p1 := G.2.2.2.2.2.2.2 (nI i + 1 : Int32).toNatClampNeg) (p2 := G.2.2.2.2.2.2.2 (nI i + 2 : Int32).toNatClampNeg) C hB
    refine ⟨v1, v2, ?_⟩
    refine X _ ?_
    intro I1 v' w' q' nx' lo' M' lk' sq' C1 f1
    have N1 := N.outX (I' := I1) (J' := J) (R' := R) (K' := K) (n' := n) (fun b b1 b2 => ⟨f1 b b1 b2, rfl, rfl⟩) (fun _ _ => rfl) (Nat.le_refl _)
    refine ⟨_, _, rfl, rfl, v1, v2, ?_⟩
    refine Y _ _ _ _ _ N1 _ ?_
    intro I2 J2 R2 t2 c2 N2 f2 f3
    have C2 := C1.out (fun b hb => (f2 b hb).1) f3
    exact ⟨_, _, _, _, rfl, rfl, _, _, _, C2.X, _, _, N2.S_, O, fun _ => next (by omega) (by omega) (C2.wide hB' (by omega)) (N2.wide hB' (by omega)) O, fun h => absurd rfl h⟩
  · intro _
    obtain ⟨r, vl', st', tp', lw', sp', ap', sg', B', hB', X, Y⟩ := b_shares (e := e) (J := J) (t := t) (c := c) (tl := tl) (tt := tt) (p := G.2.2.2.2.2.2.2 (nI i + 1 : Int32).toNatClampNeg) (p2 := G.2.2.2.2.2.2.2 (nI i + 2 : Int32).toNatClampNeg) C hB
    refine ⟨v1, v2, ?_⟩
    refine X _ ?_
    intro I1 v' w' q' nx' lo' M' lk' sq' C1 f1
    have N1 := N.outX (I' := I1) (J' := J) (R' := R) (K' := K) (n' := n) (fun b b1 b2 => ⟨f1 b b1 b2, rfl, rfl⟩) (fun _ _ => rfl) (Nat.le_refl _)
    refine ⟨_, _, rfl, rfl, v1, v2, ?_⟩
    refine Y _ _ _ _ _ N1 _ ?_
    intro I2 N2 f2
    exact ⟨_, _, rfl, rfl, fun _ => next (by omega) (by omega) ((C1.out f2 (fun _ _ => rfl)).wide hB' (by omega)) (N2.wide hB' (by omega)) O, fun h => absurd rfl h⟩
  · intro _
    obtain ⟨r, vl', st', tp', lw', sp', ap', sg', B', hB', X, Y⟩ := b_fades (e := e) (J := J) (t := t) (c := c) (tl := tl) (tt := tt) (p := G.2.2.2.2.2.2.2 (nI i + 1 : Int32).toNatClampNeg) C hB
    refine ⟨v1, ?_⟩
    refine X _ ?_
    intro I1 v' w' q' nx' lo' M' lk' sq' C1 f1
    have N1 := N.outX (I' := I1) (J' := J) (R' := R) (K' := K) (n' := n) (fun b b1 b2 => ⟨f1 b b1 b2, rfl, rfl⟩) (fun _ _ => rfl) (Nat.le_refl _)
    refine ⟨_, _, rfl, rfl, v1, ?_⟩
    refine Y _ _ _ _ _ N1 _ ?_
    intro I2 N2 f2
    exact ⟨_, _, rfl, rfl, fun _ => next (by omega) (by omega) ((C1.out f2 (fun _ _ => rfl)).wide hB' (by omega)) (N2.wide hB' (by omega)) O, fun h => absurd rfl h⟩
  · intro _
    obtain ⟨r, vl', st', tp', lw', sp', ap', sg', B', hB', X, Y⟩ := b_all (e := e) (J := J) (t := t) (c := c) (tl := tl) (tt := tt) (p := G.2.2.2.2.2.2.2 (nI i + 1 : Int32).toNatClampNeg) C hB
    refine ⟨v1, ?_⟩
    refine X _ ?_
    intro I1 v' w' q' nx' lo' M' lk' sq' C1 f1
    have N1 := N.outX (I' := I1) (J' := J) (R' := R) (K' := K) (n' := n) (fun b b1 b2 => ⟨f1 b b1 b2, rfl, rfl⟩) (fun _ _ => rfl) (Nat.le_refl _)
    refine ⟨_, _, rfl, rfl, v1, ?_⟩
    refine Y _ _ _ _ _ N1 _ ?_
    intro I2 N2 f2
    exact ⟨_, _, rfl, rfl, fun _ => next (by omega) (by omega) ((C1.out f2 (fun _ _ => rfl)).wide hB' (by omega)) (N2.wide hB' (by omega)) O, fun h => absurd rfl h⟩
  · intro _
    obtain ⟨r, vl', st', tp', lw', sp', ap', sg', B', hB', X, Y⟩ := b_image (e := e) (J := J) (t := t) (c := c) (tl := tl) (tt := tt)  C hB
    refine X _ ?_
    intro I1 v' w' q' nx' lo' M' lk' sq' C1 f1
    have N1 := N.outX (I' := I1) (J' := J) (R' := R) (K' := K) (n' := n) (fun b b1 b2 => ⟨f1 b b1 b2, rfl, rfl⟩) (fun _ _ => rfl) (Nat.le_refl _)
    refine ⟨_, _, rfl, rfl, ?_⟩
    refine Y _ _ _ _ _ N1 _ ?_
    intro I2 N2 f2
    exact ⟨_, _, rfl, rfl, fun _ => next (by omega) (by omega) ((C1.out f2 (fun _ _ => rfl)).wide hB' (by omega)) (N2.wide hB' (by omega)) O, fun h => absurd rfl h⟩
  · intro _
    obtain ⟨r, vl', st', tp', lw', sp', ap', sg', B', hB', X, Y⟩ := b_back (e := e) (J := J) (t := t) (c := c) (tl := tl) (tt := tt)  C hB
    refine X _ ?_
    intro I1 v' w' q' nx' lo' M' lk' sq' C1 f1
    have N1 := N.outX (I' := I1) (J' := J) (R' := R) (K' := K) (n' := n) (fun b b1 b2 => ⟨f1 b b1 b2, rfl, rfl⟩) (fun _ _ => rfl) (Nat.le_refl _)
    refine ⟨_, _, rfl, rfl, ?_⟩
    refine Y _ _ _ _ _ N1 _ ?_
    intro I2 N2 f2
    exact ⟨_, _, rfl, rfl, fun _ => next (by omega) (by omega) ((C1.out f2 (fun _ _ => rfl)).wide hB' (by omega)) (N2.wide hB' (by omega)) O, fun h => absurd rfl h⟩
  · intro _
    obtain ⟨r, vl', st', tp', lw', sp', ap', sg', B', hB', X, Y⟩ := b_count (e := e) (J := J) (t := t) (c := c) (tl := tl) (tt := tt) (p := G.2.2.2.2.2.2.2 (nI i + 1 : Int32).toNatClampNeg) C hB
    refine ⟨v1, ?_⟩
    refine X _ ?_
    intro I1 v' w' q' nx' lo' M' lk' sq' C1 f1
    have N1 := N.outX (I' := I1) (J' := J) (R' := R) (K' := K) (n' := n) (fun b b1 b2 => ⟨f1 b b1 b2, rfl, rfl⟩) (fun _ _ => rfl) (Nat.le_refl _)
    refine ⟨_, _, rfl, rfl, v1, ?_⟩
    refine Y _ _ _ _ _ N1 _ ?_
    intro I2 N2 f2
    exact ⟨_, _, rfl, rfl, fun _ => next (by omega) (by omega) ((C1.out f2 (fun _ _ => rfl)).wide hB' (by omega)) (N2.wide hB' (by omega)) O, fun h => absurd rfl h⟩
  · intros
    exact next (by omega) (by omega) (C.wide (by omega) (by omega)) (N.wide (by omega) (by omega)) O
theorem lt6 {L i : Nat} (hL : L ≤ 3072) (hi : i < 10000) (h : L < i + 6) : nI L - 6 < nI i := by
  by_cases h6 : 6 ≤ L
  · rw [show (6 : Int32) = nI 6 from rfl, tk_sub h6, tk_lt (by omega) (by omega)]
    omega
  · have d : ∀ L : Nat, L < 6 → nI L - 6 < 0 := by decide
    exact Int32.lt_of_lt_of_le (d L (by omega)) (by rw [show (0 : Int32) = nI 0 from rfl, tk_le (by omega) (by omega)]; omega)
theorem law_loop {G : zG} {e x m o : Nat} {Q : Option Value → zH → Prop} (ho : m + 21 ≤ o) (hL : G.2.2.2.2.2.2.1 ≤ 3072) (hQ : ∀ h, Q (some (.int 1)) h) : ∀ (j : Nat) {kc ks B i : Nat} {I : Nat → Nat → Int32} {J : Nat → Nat → Int64} {R : Nat → Nat → Option Nat} {K : Nat → Nat × Nat} {n : Nat} {v w q nx lo M t c : Nat} {lk sq : Nat → Nat} {tl : Nat → Nat} {tt : Nat → Nat → Nat} {vl : Vt} {st : Stt} {tp : Tpt} {lw : Lwt} {sp : Spt} {ap : Nat} {sg : Sgt}, G.2.2.2.2.2.2.1 < i + 6 * j + 6 → i ≤ 3078 → 4 * (j + 1) ≤ kc → 300 * (j + 1) ≤ ks → B + 30 * j + 40 < 100000 → CIv G I R K n x m v w q nx lo M lk sq vl st tp lw sp ap sg B → MIv G I J R K n m t c tl tt vl st tp lw sp ap sg B → hOut G R K n o → zV G (e + 61) mL_law kc ks 23 [(0, .ref (G.2.2.2.2.2.1 3)), (1, .ref x), (2, .ref m), (3, .ref o), (4, .int (nI i))] [] (I, J, R, K, n) Q := by
  intro j
  induction j with
  | zero =>
    intro kc ks B i I J R K n v w q nx lo M t c lk sq tl tt vl st tp lw sp ap sg h1 h2 h3 h4 h5 C N O
    obtain ⟨kc, rfl⟩ : ∃ kc', kc = kc' + 4 := ⟨kc - 4, by omega⟩
    obtain ⟨ks, rfl⟩ : ∃ ks', ks = ks' + 300 := ⟨ks - 300, by omega⟩
    exact wM_law_23 x v w q m t c o C.X N.S_ O _ ⟨fun _ => hQ _, fun h => absurd (lt6 hL (by omega) (by omega)) h⟩
  | succ j ih =>
    intro kc ks B i I J R K n v w q nx lo M t c lk sq tl tt vl st tp lw sp ap sg h1 h2 h3 h4 h5 C N O
    obtain ⟨kc, rfl⟩ : ∃ kc', kc = kc' + 4 := ⟨kc - 4, by omega⟩
    obtain ⟨ks, rfl⟩ : ∃ ks', ks = ks' + 300 := ⟨ks - 300, by omega⟩
    by_cases hi : i + 6 ≤ G.2.2.2.2.2.2.1
    · refine law_step C N O ho (by omega) hi hL ?_
      intro kc' ks' I J R K n v w q nx lo M t c lk sq tl tt vl st tp lw sp ap sg k1 k2 C2 N2 O2
      rw [show (nI i + 6 : Int32) = nI (i + 6) from nI_add i 6]
      exact ih (by omega) (by omega) (by omega) (by omega) (by omega) C2 N2 O2
    · exact wM_law_23 x v w q m t c o C.X N.S_ O _ ⟨fun _ => hQ _, fun h => absurd (lt6 hL (by omega) (by omega)) h⟩
