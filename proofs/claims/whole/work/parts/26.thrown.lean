section THR
variable {G : zG} {d : Nat} {I : Nat → Nat → Int32} {J : Nat → Nat → Int64} {R : Nat → Nat → Option Nat} {K : Nat → Nat × Nat} {n : Nat}
set_option maxHeartbeats 4000000 in
/-- farm of what isn't there: it throws, and changes nothing -/
theorem farm_thr {x v w q : Nat} (S : hX G R K n x v w q) {p0 p1 : Int32} (hbad : ¬ (¬ p0 < 0 ∧ ¬ I v 5 ≤ p0 ∧ ¬ p1 < 0 ∧ p1 ≤ 5)) {Q : Option Value → zH → Prop} (l : Launch) (hfl : l.flags = flags0) : vx_Met l yX11_farm [.code yX11_farm cX11_farm 3 (some .int)] (zRm (d + 8) 1 6) (va_Pc [.ref x, .int p0, .int p1] (zPre G (I, J, R, K, n))) (zQc G Q) (zXC G (I, J, R, K, n)) 1 6 (zA G) := by
  refine vx_ofW (by decide) rfl ?_
  intro p e s m args below meth c s₁ B hml hnt hv
  obtain ⟨rfl, hst, hat⟩ := hv
  have X : zCx G (d + 8) mX11_farm p l (zRm (d + 8) 1 6) s m meth c := ⟨B.exec, B.bytes, hml, B.returns, B.notSynchronized, findClass_of_methodNamed B.named, (name_of_methodNamed B.named B.method).1, hst, Nat.le_refl _, Nat.le_refl _, hfl⟩
  have hl := lv_entry [.ref x, .int p0, .int p1] (n := 3) (Nat.le_of_ble_eq_true rfl)
  rw [lg_entry_eq]
  generalize (lg_sl ([.ref x, .int p0, .int p1]) ++ List.replicate (3 - (lg_sl ([.ref x, .int p0, .int p1])).length) Slot.unset).toArray = la at hl ⊢
  have hl : lv_has la 3 [(0, .ref x), (1, .int p0), (2, .int p1)] := hl
  have hS0 : va_S (zA G) s.heap s.heap [] := va_S.rf
  have thr : ∀ (H1 : Heap) (locs1 : List Loc), zAt G (I, J, R, K, n) H1 → va_S (zA G) s.heap H1 locs1 → W p l e (zRm (d + 8) 1 6) s m ([.ref x, .int p0, .int p1] : List Value).toArray below meth c H1 locs1 0 0 (vx_MQ below (zQc G Q) (zXC G (I, J, R, K, n)) ([.ref x, .int p0, .int p1] : List Value).toArray s 1 6 (zA G)) (F0 m 17 la []) := by
    intro H1 locs1 hA1 hS1
    have hat := zThrow_at (args := ([.ref x, .int p0, .int p1] : List Value).toArray) X.2.2.2.2.2.2.2.1.1 X.2.2.2.2.2.2.2.1.2.1
    refine vx_throw0 (cc := cX11_farm) (own := RX11) (cls := zNSE) (names := zNms) (ik := 149) (ic := 151) (A := zA G) X.1 X.2.1 (zNoTr hfl) X.2.2.2.2.2.1 (by decide +kernel) (by decide +kernel) (hat _ List.mem_cons_self) (hat _ (List.mem_cons_of_mem _ List.mem_cons_self)) (fun w hw => hat w (List.mem_cons_of_mem _ (List.mem_cons_of_mem _ hw))) (fun w hw => List.all_eq_true.mp zThrow_ot w hw) X.2.2.2.2.2.2.2.1.2.2.1.2.2.2.2.2.2.1 X.2.2.2.2.2.2.2.1.2.2.1.2.2.2.2.2.2.2 hS1 (by rw [hml]; exact hl.1) (by decide +kernel) (by decide +kernel) (by decide +kernel) (by decide +kernel) (fun x hx => absurd hx (fun h => hnt x h)) ?_ ?_ (Nat.le_of_ble_eq_true rfl) (Nat.le_of_ble_eq_true rfl) X.2.2.2.2.1 ?_ hS1.2.2 (by decide) (by decide)
    · show zNms.length + 3 < d + 8
      show 5 < d + 8
      omega
    · show 0 + (13 * (2 + 1) + 42) ≤ 64 * (d + 8)
      omega
    · intro t hal h1 h2
      refine ⟨rfl, ⟨t.heap.size, by rw [← hA1.2.1]; exact h1, hA1.junk h1 h2⟩, Nat.le_trans hS1.1 h1, fun q g1 g2 => ?_⟩
      rw [h2 q (Nat.lt_of_lt_of_le g1 hS1.1)]
      exact hS1.2.1 q g1 g2
  refine lv_aload_n X.1 X.2.1 (cc := cX11_farm) (k := 0) (by decide +kernel) rfl (lv_at hl 0 rfl) ?_
  refine lv_iload_n X.1 X.2.1 (cc := cX11_farm) (k := 1) (by decide +kernel) rfl (lv_at hl 1 rfl) ?_
  have X8 : zCx G ((d + 7) + 1) mX11_farm p l (zRm (d + 8) 1 6) s m meth c := X
  have ho : sO G K n x 11 := X_0 S
  refine zAfterW (rest := []) (va_runV (C := RX11) (Ts := []) (cc := cX11_farm) (nL := 3) (As := [.int p0]) (b := x) (index := 146) ⟨X.1, X.2.1, X.2.2.1, X.2.2.2.2.2.1, fun _ q => by cases q⟩ (c_isFarm (d := d + 5) (I := I) (J := J) S (p := p0) l hfl) ⟨zCB X8 okX11_isFarm mlX11_146, X.2.2.2.2.2.2.2.1.1 _ _ imX11_isFarm rfl, X.2.2.2.2.2.2.2.1.1 _ _ seX11_isFarm rfl⟩ ⟨zC.blind, va_recv X.2.2.2.2.2.2.2.1.2.2.2.1 (hat.one ho.1 ho.2.1 (by show (K x).1 ≠ 99; rw [ho.2.2]; decide)) zcls11.1 (ci := 11) (q0 := 0) (fs := zFs (I, J, R, K, n) x (zTy 11)) (by show some (x, zCell G (I, J, R, K, n) x) = _; rw [zCell_ob (h := (I, J, R, K, n)) ho.2.2 (by decide)]), fun U hU hW => ⟨rfl, X.2.2.2.2.2.2.2.1.warm hS0 hU hW, by rw [hU]; exact hat⟩⟩ rfl rfl hl.1 rfl (lv_room (Nat.le_of_ble_eq_true rfl)) (show decode cX11_farm 2 = .ok (.invokevirtual 146, 3) by decide +kernel) ⟨Nat.zero_le _, Nat.zero_le _⟩) hS0 ?_
  rintro _ _ H1 locs1 ⟨rfl, rfl⟩ hA1 hS1
  change W p l e (zRm (d + 8) 1 6) s m _ below meth c H1 locs1 0 0 _ (F0 m 5 la [.int (if p0 < 0 then 0 else if I v 5 ≤ p0 then 0 else 1)])
  refine lv_if_eq X.1 X.2.1 (cc := cX11_farm) (off := 12) (tgt := 17) (by decide +kernel) rfl (fun _ => thr H1 locs1 hA1 hS1) (fun hne => ?_)
  refine lv_iload_n X.1 X.2.1 (cc := cX11_farm) (k := 2) (by decide +kernel) rfl (lv_at hl 2 rfl) ?_
  refine lv_if_lt X.1 X.2.1 (cc := cX11_farm) (off := 8) (tgt := 17) (by decide +kernel) rfl (fun _ => thr H1 locs1 hA1 hS1) (fun h1 => ?_)
  refine lv_iload_n X.1 X.2.1 (cc := cX11_farm) (k := 2) (by decide +kernel) rfl (lv_at hl 2 rfl) ?_
  refine lv_iconst X.1 X.2.1 (cc := cX11_farm) (n := 5) (v := 5) (by decide +kernel) (by decide) ?_
  refine lv_icmp_le X.1 X.2.1 (cc := cX11_farm) (off := 11) (tgt := 25) (by decide +kernel) rfl (fun h2 => ?_) (fun _ => thr H1 locs1 hA1 hS1)
  refine absurd ⟨fun q1 => ?_, fun q2 => ?_, h1, h2⟩ hbad
  · exact hne (by rw [if_pos q1])
  · by_cases q1 : p0 < 0
    · exact hne (by rw [if_pos q1])
    · exact hne (by rw [if_neg q1, if_pos q2])
end THR
