/-! FenceYardsLaw.farm: 0 and the answer in the row, or 1 where the class throws -/
def mL_farm : zM := (yL_farm, cL_farm, 5, some .int)
def zHH : List (Nat × Nat × Nat × Nat) := [(0, 10, 13, 13)]
def zCF (G : zG) (d kc ks : Nat) (vs : List Value) (h : zH) (Q : Option Value → zH → Prop) : Prop :=
  ∀ l : Launch, l.flags = flags0 → Met l yL_farm [.codeWith yL_farm cL_farm 5 (some .int) zHH] (zRm d kc ks) (va_Pc vs (zPre G h)) (zQc G Q) kc ks (zA G)
theorem zCF.of {G : zG} {d kc ks : Nat} {vs : List Value} {h : zH} {Q : Option Value → zH → Prop} (hn : (lg_sl vs).length ≤ 5) (K : zV G d mL_farm kc ks 0 (lv_args 0 vs) [] h Q) : zCF G d kc ks vs h Q := by
  intro l hfl
  refine va_MetW (by decide) rfl ?_
  intro p e s m args below meth c s₁ B hml hv
  obtain ⟨rfl, hst, hat⟩ := hv
  have hl := lv_entry vs (n := 5) hn
  rw [lg_entry_eq]
  exact K p l e _ s m _ below meth c s.heap [] 0 0 _ ⟨B.exec, B.bytes, hml, B.returns, B.notSynchronized, findClass_of_methodNamed B.named, (name_of_methodNamed B.named B.method).1, hst, Nat.le_refl _, Nat.le_refl _, hfl⟩ hat va_S.rf (Nat.zero_add _) (Nat.zero_add _) hl
section HLP
variable {G : zG} {d : Nat} {I : Nat → Nat → Int32} {J : Nat → Nat → Int64} {R : Nat → Nat → Option Nat} {K : Nat → Nat × Nat} {n : Nat}
theorem helper_ok {kc ks x o : Nat} {p0 p1 : Int32} {Q : Option Value → zH → Prop} (hx : sO G K n x 11) (ho : sA G K n o 35 1) (hC : zC G d mX11_farm 0 0 [.ref x, .int p0, .int p1] (I, J, R, K, n) (fun r h => ∃ y : Int32, r = some (.int y) ∧ h = (I, J, R, K, n) ∧ Q (some (.int 0)) (I, zU J o 0 y.toInt64, R, K, n))) : zCF G (d + 1) kc ks [.ref x, .int p0, .int p1, .ref o] (I, J, R, K, n) Q := by
  refine zCF.of (Nat.le_of_ble_eq_true rfl) ?_
  change zV G (d + 1) mL_farm kc ks 0 [(0, .ref x), (1, .int p0), (2, .int p1), (3, .ref o)] [] (I, J, R, K, n) Q
  refine zAload_n 3 3 1 (by decide +kernel) rfl rfl ?_
  refine zIconst 0 0 2 (by decide +kernel) rfl (by decide) ?_
  refine zAload_n 0 0 3 (by decide +kernel) rfl rfl ?_
  refine zIload_n 1 1 4 (by decide +kernel) rfl rfl ?_
  refine zIload_n 2 2 5 (by decide +kernel) rfl rfl ?_
  refine zCallV 11 zcls11 mX11_farm 7 2 0 0 kc ks 8 [.int p0, .int p1] [.int 0, .ref o] okX11_farm mlL_7 imX11_farm seX11_farm (by decide +kernel) rfl rfl (Nat.le_of_ble_eq_true rfl) rfl rfl hx (zC.mono hC ?_)
  rintro _ _ ⟨y, rfl, rfl, hq⟩
  change zV G (d + 1) mL_farm kc ks 8 [(0, .ref x), (1, .int p0), (2, .int p1), (3, .ref o)] [.int y, .int 0, .ref o] (I, J, R, K, n) Q
  refine zI2l 9 (by decide +kernel) rfl ?_
  refine yLastore 1 10 (by decide +kernel) rfl ho (vp_in_nI (n := 0) (by decide) (by decide)) ?_
  refine zGoto 7 17 (by decide +kernel) rfl ?_
  refine zIconst 0 0 18 (by decide +kernel) rfl (by decide) ?_
  exact zIret rfl (by decide +kernel) hq
set_option maxHeartbeats 4000000 in
theorem helper_thr {x v w q o : Nat} {p0 p1 : Int32} {Q : Option Value → zH → Prop} (S : hX G R K n x v w q) (hbad : ¬ (¬ p0 < 0 ∧ ¬ I v 5 ≤ p0 ∧ ¬ p1 < 0 ∧ p1 ≤ 5)) (hQ : ∀ n', n ≤ n' → Q (some (.int 1)) (zJk (I, J, R, K, n) n')) : zCF G (d + 9) 1 6 [.ref x, .int p0, .int p1, .ref o] (I, J, R, K, n) Q := by
  intro l hfl
  refine va_MetW (by decide) rfl ?_
  intro p e s m args below meth c s₁ B hml hv
  obtain ⟨rfl, hst, hat⟩ := hv
  have X : zCx G ((d + 8) + 1) mL_farm p l (zRm (d + 9) 1 6) s m meth c := ⟨B.exec, B.bytes, hml, B.returns, B.notSynchronized, findClass_of_methodNamed B.named, (name_of_methodNamed B.named B.method).1, hst, Nat.le_refl _, Nat.le_refl _, hfl⟩
  have htab : c.exceptionTable.toList = tableOf zHH := vx_table (x := yL_farm) B (atoms_spec (ws := [.codeWith yL_farm cL_farm 5 (some .int) zHH]) B.pre _ List.mem_cons_self)
  have hl := lv_entry [.ref x, .int p0, .int p1, .ref o] (n := 5) (Nat.le_of_ble_eq_true rfl)
  rw [lg_entry_eq]
  generalize (lg_sl ([.ref x, .int p0, .int p1, .ref o]) ++ List.replicate (5 - (lg_sl ([.ref x, .int p0, .int p1, .ref o])).length) Slot.unset).toArray = la at hl ⊢
  have hl : lv_has la 5 [(0, .ref x), (1, .int p0), (2, .int p1), (3, .ref o)] := hl
  have hS0 : va_S (zA G) s.heap s.heap [] := va_S.rf
  have ho : sO G K n x 11 := X_0 S
  refine lv_aload_n X.1 X.2.1 (cc := cL_farm) (k := 3) (by decide +kernel) rfl (lv_at hl 3 rfl) ?_
  refine lv_iconst X.1 X.2.1 (cc := cL_farm) (n := 0) (v := 0) (by decide +kernel) (by decide) ?_
  refine lv_aload_n X.1 X.2.1 (cc := cL_farm) (k := 0) (by decide +kernel) rfl (lv_at hl 0 rfl) ?_
  refine lv_iload_n X.1 X.2.1 (cc := cL_farm) (k := 1) (by decide +kernel) rfl (lv_at hl 1 rfl) ?_
  refine lv_iload_n X.1 X.2.1 (cc := cL_farm) (k := 2) (by decide +kernel) rfl (lv_at hl 2 rfl) ?_
  have run := vx_runV (C := RX11) (Ts := []) (cc := cL_farm) (nL := 5) (As := [.int p0, .int p1]) (b := x) (index := 7) (rest := [.int 0, .ref o]) (g := F0 m 5 la [.int p1, .int p0, .ref x, .int 0, .ref o]) (H := s.heap) (locs := []) (cells := 0) (slots := 0) (below := below) (e := e) (meth := meth) ⟨X.1, X.2.1, X.2.2.1, X.2.2.2.2.2.1, fun _ q => by cases q⟩ (farm_thr (d := d) (I := I) (J := J) (Q := fun _ _ => False) S hbad l hfl) (args := ([.ref x, .int p0, .int p1, .ref o] : List Value).toArray) ⟨zCB X okX11_farm mlL_7, X.2.2.2.2.2.2.2.1.1 _ _ imX11_farm rfl, X.2.2.2.2.2.2.2.1.1 _ _ seX11_farm rfl⟩ ⟨zC.blind, va_recv X.2.2.2.2.2.2.2.1.2.2.2.1 (hat.one ho.1 ho.2.1 (by show (K x).1 ≠ 99; rw [ho.2.2]; decide)) zcls11.1 (ci := 11) (q0 := 0) (fs := zFs (I, J, R, K, n) x (zTy 11)) (by show some (x, zCell G (I, J, R, K, n) x) = _; rw [zCell_ob (h := (I, J, R, K, n)) ho.2.2 (by decide)]), fun U hU hW => ⟨rfl, X.2.2.2.2.2.2.2.1.warm hS0 hU hW, by rw [hU]; exact hat⟩⟩ rfl rfl hl.1 rfl (lv_room (Nat.le_of_ble_eq_true rfl)) (show decode cL_farm 5 = .ok (.invokevirtual 7, 3) by decide +kernel) ⟨Nat.le_of_ble_eq_true rfl, Nat.le_of_ble_eq_true rfl⟩
  intro T hT Xs
  rcases run T hT Xs with ⟨v1, st₀, t, T', L, h0, X', hL, e1, e2, ⟨⟨r, h', hv, hf, -⟩, -⟩, -⟩ | ⟨qa, st₀, t, T', L, E, ce, h0, X', hL, e1, e2, ⟨hE, ⟨n', hn', hA1⟩, hF⟩, hce, hvm, hcl, stp⟩
  · exact absurd hf id
  · subst hE
    have hS1 : va_S (zA G) s.heap T'.heap ([] ++ L) := ⟨by rw [e1, ← h0]; exact hF.1, fun q g1 g2 => by rw [e1, ← h0]; exact hF.2 q (by rw [h0]; exact g1) g2, fun z hz => hL z (by simpa using hz)⟩
    have hcast : (Cond.castable zNSE zNSE).before ([.ref x, .int p0, .int p1, .ref o] : List Value).toArray s = true := va_Nw.use rfl (X.2.2.2.2.2.2.2.1.2.1.1 _ (List.mem_filter.mpr ⟨zThrow_w (.castable zNSE zNSE) (by decide +kernel), rfl⟩))
    have kk : vx_W p l e (zRm (d + 9) 1 6) s m ([.ref x, .int p0, .int p1, .ref o] : List Value).toArray below meth c T'.heap ([] ++ L) (0 + 1) (0 + 6) (MQ below (zQc G Q) ([.ref x, .int p0, .int p1, .ref o] : List Value).toArray s 1 6 (zA G)) (F0 m 5 la [.int 0, .ref o]) qa := by
      refine vx_catch (own := RL) (name := zNSE) (E := zNSE) (ce := ce) X.2.2.2.2.2.1 [] ⟨0, 10, 13, 13⟩ [] (by rw [htab]; rfl) (fun z hz => by cases hz) (by decide) (by decide) (X.2.2.2.2.2.2.2.1.1 _ _ clL_13 rfl) hcast (by rw [e1]; exact hce) hvm hcl ?_
      refine lv_astore X.1 X.2.1 (cc := cL_farm) (i := 4) (by decide +kernel) hl (by decide) rfl (fun la' hl' => ?_)
      refine lv_iconst X.1 X.2.1 (cc := cL_farm) (n := 1) (v := 1) (by decide +kernel) (by decide) ?_
      exact W.iret (v := 1) X.1 X.2.1 X.2.2.2.1 (fun t2 ht2 hW2 => ⟨⟨some (.int 1), zJk (I, J, R, K, n) n', rfl, hQ n' hn', by rw [ht2, e1]; exact hA1⟩, hS1.F ht2⟩) hS1.2.2 (by decide +kernel) X.2.2.2.2.1
    obtain ⟨t2, a1, b1⟩ := kk T' rfl X'
    exact ⟨t2, stp.trans a1, b1⟩
end HLP
