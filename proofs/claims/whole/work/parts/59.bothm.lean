/-! BOTH STATES, SIDE BY SIDE: the model's -/
def mV (I : Nat → Nat → Int32) (m : Nat) (vl : Vt) : Prop := VM I m vl.1 vl.2.1 ∧ I m 27 = nI vl.2.2.1 ∧ (∀ k, k < 3 * vl.2.2.1 → I (m + 9) k = nI (vl.2.2.2.1 k)) ∧ I (m + 5) 0 = nI vl.2.2.2.2.1 ∧ I (m + 5) 1 = nI vl.2.2.2.2.2
/-- a row of the model's, its log too -/
def LR (g : Nat → Int32) (T : Nat → Nat) (LG : Nat → Nat → Nat) : Prop := (∀ k, k < 50 → g k = nI (T k)) ∧ g 50 = nI (min 60 (T 49)) ∧ ∀ i w, i < min 60 (T 49) → w < 3 → g (51 + 3 * i + w) = nI (LG (T 49 - min 60 (T 49) + i) w)
def mS (I : Nat → Nat → Int32) (m : Nat) (st : Stt) : Prop :=
  LR (I (m + 13)) st.1 st.2.1 ∧ I m 39 = nI st.2.2.1.length ∧ st.2.2.1.length ≤ 40 ∧ (∀ j, j < st.2.2.1.length → LR (fun k => I (m + 17) (231 * (st.2.2.1.length - 1 - j) + k)) (nth st.2.2.1 j) st.2.1) ∧ ((st.2.2.2 = none ∧ I m 47 = 0) ∨ (∃ y, st.2.2.2 = some y ∧ I m 47 = 1 ∧ LR (I (m + 20)) y.1 y.2))
def mT (I : Nat → Nat → Int32) (m : Nat) (tp : Tpt) : Prop := tp.1 ≤ 240 ∧ I m 6 = nI tp.1 ∧ ∀ k, k < tp.1 → I (m + 1) k = sb (tp.2 k) ∧ 1 ≤ tp.2 k ∧ tp.2 k < 256
def mHl (I : Nat → Nat → Int32) (m : Nat) (lw : Lwt) : Prop := (lw.2.2 = 0 ∧ I m 34 = -1) ∨ (∃ k, k < lw.1 ∧ lw.2.2 = k + 1 ∧ I m 34 = nI k)
def mP (I : Nat → Nat → Int32) (m : Nat) (sp : Spt) : Prop := sp.1 ≤ 4 ∧ I m 30 = nI sp.1 ∧ ∀ k, k < sp.1 → sp.2.1 k ≤ 16 ∧ I (m + 12) k = nI (sp.2.1 k) ∧ ∀ i, i < sp.2.1 k → I (m + 11) (3 * (16 * k + i)) = sp.2.2 k (3 * i) ∧ I (m + 11) (3 * (16 * k + i) + 1) = sp.2.2 k (3 * i + 1) ∧ I (m + 11) (3 * (16 * k + i) + 2) = sp.2.2 k (3 * i + 2) ∧ (sp.2.2 k (3 * i) = 0 ∨ sp.2.2 k (3 * i) = 1 ∨ sp.2.2 k (3 * i) = 2 ∨ sp.2.2 k (3 * i) = 3)
def mG (I : Nat → Nat → Int32) (m : Nat) (sg : Sgt) : Prop := sg.1 ≤ 10 ∧ I m 44 = nI sg.1 ∧ (∀ k, k < 3 * sg.1 → I (m + 18) k = nI (sg.2 k)) ∧ ∀ i, i < sg.1 → sg.2 (3 * i) < 9 ∧ sg.2 (3 * i + 1) ≤ 40 ∧ sg.2 (3 * i + 2) ≤ 1
def MIv (G : zG) (I : Nat → Nat → Int32) (J : Nat → Nat → Int64) (R : Nat → Nat → Option Nat) (K : Nat → Nat × Nat) (n m t c : Nat) (tl : Nat → Nat) (tt : Nat → Nat → Nat) (vl : Vt) (st : Stt) (tp : Tpt) (lw : Lwt) (sp : Spt) (ap : Nat) (sg : Sgt) (B : Nat) : Prop :=
  hMod G R K n m t c ∧ mV I m vl ∧ okVl vl ∧ mS I m st ∧ okSt vl st B ∧ mT I m tp ∧ LMo I J m lw.1 tl tt lw.2.1 ∧ mHl I m lw ∧ mP I m sp ∧ mG I m sg ∧ (I m 35 = nI ap ∧ ap ≤ 9)
theorem MIv.S_ {G : zG} {I : Nat → Nat → Int32} {J : Nat → Nat → Int64} {R : Nat → Nat → Option Nat} {K : Nat → Nat × Nat} {n m t c : Nat} {tl : Nat → Nat} {tt : Nat → Nat → Nat} {vl : Vt} {st : Stt} {tp : Tpt} {lw : Lwt} {sp : Spt} {ap : Nat} {sg : Sgt} {B : Nat} (C : MIv G I J R K n m t c tl tt vl st tp lw sp ap sg B) : hMod G R K n m t c := C.1
theorem MIv.v_ {G : zG} {I : Nat → Nat → Int32} {J : Nat → Nat → Int64} {R : Nat → Nat → Option Nat} {K : Nat → Nat × Nat} {n m t c : Nat} {tl : Nat → Nat} {tt : Nat → Nat → Nat} {vl : Vt} {st : Stt} {tp : Tpt} {lw : Lwt} {sp : Spt} {ap : Nat} {sg : Sgt} {B : Nat} (C : MIv G I J R K n m t c tl tt vl st tp lw sp ap sg B) : mV I m vl := C.2.1
theorem MIv.okv_ {G : zG} {I : Nat → Nat → Int32} {J : Nat → Nat → Int64} {R : Nat → Nat → Option Nat} {K : Nat → Nat × Nat} {n m t c : Nat} {tl : Nat → Nat} {tt : Nat → Nat → Nat} {vl : Vt} {st : Stt} {tp : Tpt} {lw : Lwt} {sp : Spt} {ap : Nat} {sg : Sgt} {B : Nat} (C : MIv G I J R K n m t c tl tt vl st tp lw sp ap sg B) : okVl vl := C.2.2.1
theorem MIv.s_ {G : zG} {I : Nat → Nat → Int32} {J : Nat → Nat → Int64} {R : Nat → Nat → Option Nat} {K : Nat → Nat × Nat} {n m t c : Nat} {tl : Nat → Nat} {tt : Nat → Nat → Nat} {vl : Vt} {st : Stt} {tp : Tpt} {lw : Lwt} {sp : Spt} {ap : Nat} {sg : Sgt} {B : Nat} (C : MIv G I J R K n m t c tl tt vl st tp lw sp ap sg B) : mS I m st := C.2.2.2.1
theorem MIv.oks_ {G : zG} {I : Nat → Nat → Int32} {J : Nat → Nat → Int64} {R : Nat → Nat → Option Nat} {K : Nat → Nat × Nat} {n m t c : Nat} {tl : Nat → Nat} {tt : Nat → Nat → Nat} {vl : Vt} {st : Stt} {tp : Tpt} {lw : Lwt} {sp : Spt} {ap : Nat} {sg : Sgt} {B : Nat} (C : MIv G I J R K n m t c tl tt vl st tp lw sp ap sg B) : okSt vl st B := C.2.2.2.2.1
theorem MIv.tp_ {G : zG} {I : Nat → Nat → Int32} {J : Nat → Nat → Int64} {R : Nat → Nat → Option Nat} {K : Nat → Nat × Nat} {n m t c : Nat} {tl : Nat → Nat} {tt : Nat → Nat → Nat} {vl : Vt} {st : Stt} {tp : Tpt} {lw : Lwt} {sp : Spt} {ap : Nat} {sg : Sgt} {B : Nat} (C : MIv G I J R K n m t c tl tt vl st tp lw sp ap sg B) : mT I m tp := C.2.2.2.2.2.1
theorem MIv.lm_ {G : zG} {I : Nat → Nat → Int32} {J : Nat → Nat → Int64} {R : Nat → Nat → Option Nat} {K : Nat → Nat × Nat} {n m t c : Nat} {tl : Nat → Nat} {tt : Nat → Nat → Nat} {vl : Vt} {st : Stt} {tp : Tpt} {lw : Lwt} {sp : Spt} {ap : Nat} {sg : Sgt} {B : Nat} (C : MIv G I J R K n m t c tl tt vl st tp lw sp ap sg B) : LMo I J m lw.1 tl tt lw.2.1 := C.2.2.2.2.2.2.1
theorem MIv.hl_ {G : zG} {I : Nat → Nat → Int32} {J : Nat → Nat → Int64} {R : Nat → Nat → Option Nat} {K : Nat → Nat × Nat} {n m t c : Nat} {tl : Nat → Nat} {tt : Nat → Nat → Nat} {vl : Vt} {st : Stt} {tp : Tpt} {lw : Lwt} {sp : Spt} {ap : Nat} {sg : Sgt} {B : Nat} (C : MIv G I J R K n m t c tl tt vl st tp lw sp ap sg B) : mHl I m lw := C.2.2.2.2.2.2.2.1
theorem MIv.p_ {G : zG} {I : Nat → Nat → Int32} {J : Nat → Nat → Int64} {R : Nat → Nat → Option Nat} {K : Nat → Nat × Nat} {n m t c : Nat} {tl : Nat → Nat} {tt : Nat → Nat → Nat} {vl : Vt} {st : Stt} {tp : Tpt} {lw : Lwt} {sp : Spt} {ap : Nat} {sg : Sgt} {B : Nat} (C : MIv G I J R K n m t c tl tt vl st tp lw sp ap sg B) : mP I m sp := C.2.2.2.2.2.2.2.2.1
theorem MIv.g_ {G : zG} {I : Nat → Nat → Int32} {J : Nat → Nat → Int64} {R : Nat → Nat → Option Nat} {K : Nat → Nat × Nat} {n m t c : Nat} {tl : Nat → Nat} {tt : Nat → Nat → Nat} {vl : Vt} {st : Stt} {tp : Tpt} {lw : Lwt} {sp : Spt} {ap : Nat} {sg : Sgt} {B : Nat} (C : MIv G I J R K n m t c tl tt vl st tp lw sp ap sg B) : mG I m sg := C.2.2.2.2.2.2.2.2.2.1
theorem MIv.ap_ {G : zG} {I : Nat → Nat → Int32} {J : Nat → Nat → Int64} {R : Nat → Nat → Option Nat} {K : Nat → Nat × Nat} {n m t c : Nat} {tl : Nat → Nat} {tt : Nat → Nat → Nat} {vl : Vt} {st : Stt} {tp : Tpt} {lw : Lwt} {sp : Spt} {ap : Nat} {sg : Sgt} {B : Nat} (C : MIv G I J R K n m t c tl tt vl st tp lw sp ap sg B) : (I m 35 = nI ap ∧ ap ≤ 9) := C.2.2.2.2.2.2.2.2.2.2
theorem hMod_R {G : zG} {R R' : Nat → Nat → Option Nat} {K : Nat → Nat × Nat} {n m t c : Nat} (S : hMod G R K n m t c) (h : R' m = R m) : hMod G R' K n m t c :=
  ⟨Mod_0 S, (by rw [h]; exact Mod_1 S), Mod_2 S, (by rw [h]; exact Mod_3 S), Mod_4 S, (by rw [h]; exact Mod_5 S), Mod_6 S, (by rw [h]; exact Mod_7 S), Mod_8 S, (by rw [h]; exact Mod_9 S), Mod_10 S, (by rw [h]; exact Mod_11 S), Mod_12 S, (by rw [h]; exact Mod_13 S), Mod_14 S, (by rw [h]; exact Mod_15 S), Mod_16 S, (by rw [h]; exact Mod_17 S), Mod_18 S, (by rw [h]; exact Mod_19 S), Mod_20 S, (by rw [h]; exact Mod_21 S), Mod_22 S, (by rw [h]; exact Mod_23 S), Mod_24 S, (by rw [h]; exact Mod_25 S), Mod_26 S, (by rw [h]; exact Mod_27 S), Mod_28 S, (by rw [h]; exact Mod_29 S), Mod_30 S, (by rw [h]; exact Mod_31 S), Mod_32 S, (by rw [h]; exact Mod_33 S), Mod_34 S, (by rw [h]; exact Mod_35 S), Mod_36 S, (by rw [h]; exact Mod_37 S), Mod_38 S, (by rw [h]; exact Mod_39 S), Mod_40 S, (by rw [h]; exact Mod_41 S), (by rw [h]; exact Mod_42 S), (by rw [h]; exact Mod_43 S), Mod_44 S⟩
section
variable {G : zG} {I I' : Nat → Nat → Int32} {J J' : Nat → Nat → Int64} {R R' : Nat → Nat → Option Nat} {K K' : Nat → Nat × Nat} {n n' x m v w q nx lo M t c : Nat} {lk sq : Nat → Nat} {tl : Nat → Nat} {tt : Nat → Nat → Nat} {vl : Vt} {st : Stt} {tp : Tpt} {lw : Lwt} {sp : Spt} {ap : Nat} {sg : Sgt} {B : Nat}
theorem MIv.hld (C : MIv G I J R K n m t c tl tt vl st tp lw sp ap sg B) : HLD I m lw.1 lw.2.1 (aW lw) := by
  rcases C.hl_ with ⟨e, h⟩ | ⟨k, hk, e, h⟩
  · refine Or.inl ⟨h, fun k g mn b l d => ?_⟩
    unfold aW
    rw [if_pos e]
  · refine Or.inr ⟨k, hk, h, fun h g mn b l d => ?_⟩
    unfold aW
    rw [if_neg (by omega), e, Nat.add_sub_cancel]
theorem MIv.mr (C : MIv G I J R K n m t c tl tt vl st tp lw sp ap sg B) : MR I (m + 13) st.1 := C.s_.1.1
/-- the model's cells of which nothing is said -/
def scm (m : Nat) (b k : Nat) : Prop := (b = m ∧ (k = 0 ∨ (8 ≤ k ∧ k ≤ 17) ∨ k = 28 ∨ k = 29 ∨ k = 31 ∨ k = 41 ∨ k = 42)) ∨ b = m + 4 ∨ b = m + 6 ∨ b = m + 8 ∨ b = m + 10 ∨ (b = m + 11 ∧ 192 ≤ k) ∨ (b = m + 12 ∧ 4 ≤ k) ∨ b = m + 14 ∨ b = m + 16 ∨ b = m + 19 ∨ b < m ∨ m + 21 ≤ b
theorem MIv.same (C : MIv G I J R K n m t c tl tt vl st tp lw sp ap sg B) (S' : hMod G R' K n m t c) (h : ∀ b k, ¬ scm m b k → I' b k = I b k) (L' : LMo I' J' m lw.1 tl tt lw.2.1) : MIv G I' J' R' K n m t c tl tt vl st tp lw sp ap sg B := by
  have hm : ∀ k, (k ≠ 0 ∧ ¬ (8 ≤ k ∧ k ≤ 17) ∧ k ≠ 28 ∧ k ≠ 29 ∧ k ≠ 31 ∧ k ≠ 41 ∧ k ≠ 42) → I' m k = I m k := fun k hk => h m k (by unfold scm; omega)
  have hb : ∀ b, m < b → b < m + 21 → b ≠ m + 4 → b ≠ m + 6 → b ≠ m + 8 → b ≠ m + 10 → b ≠ m + 11 → b ≠ m + 12 → b ≠ m + 14 → b ≠ m + 16 → b ≠ m + 19 → I' b = I b := fun b a1 a2 a3 a4 a5 a6 a7 a8 a9 a10 a11 => funext fun k => h b k (by unfold scm; omega)
  have hp : ∀ k, k < 192 → I' (m + 11) k = I (m + 11) k := fun k hk => h _ _ (by unfold scm; omega)
  have hq : ∀ k, k < 4 → I' (m + 12) k = I (m + 12) k := fun k hk => h _ _ (by unfold scm; omega)
  refine ⟨S', ?_, C.okv_, ?_, C.oks_, ?_, L', ?_, ?_, ?_, ?_⟩
  · unfold mV VM
    rw [hm 26 (by omega), hm 27 (by omega), hb (m + 7) (by omega) (by omega) (by omega) (by omega) (by omega) (by omega) (by omega) (by omega) (by omega) (by omega) (by omega), hb (m + 9) (by omega) (by omega) (by omega) (by omega) (by omega) (by omega) (by omega) (by omega) (by omega) (by omega) (by omega), hb (m + 5) (by omega) (by omega) (by omega) (by omega) (by omega) (by omega) (by omega) (by omega) (by omega) (by omega) (by omega)]
    exact C.v_
  · unfold mS
    rw [hm 39 (by omega), hm 47 (by omega), hb (m + 13) (by omega) (by omega) (by omega) (by omega) (by omega) (by omega) (by omega) (by omega) (by omega) (by omega) (by omega), hb (m + 17) (by omega) (by omega) (by omega) (by omega) (by omega) (by omega) (by omega) (by omega) (by omega) (by omega) (by omega), hb (m + 20) (by omega) (by omega) (by omega) (by omega) (by omega) (by omega) (by omega) (by omega) (by omega) (by omega) (by omega)]
    exact C.s_
  · unfold mT
    rw [hm 6 (by omega), hb (m + 1) (by omega) (by omega) (by omega) (by omega) (by omega) (by omega) (by omega) (by omega) (by omega) (by omega) (by omega)]
    exact C.tp_
  · unfold mHl
    rw [hm 34 (by omega)]
    exact C.hl_
  · obtain ⟨c1, c2, c3⟩ := C.p_
    refine ⟨c1, by rw [hm 30 (by omega)]; exact c2, fun k hk => ?_⟩
    obtain ⟨a1, a2, a3⟩ := c3 k hk
    refine ⟨a1, by rw [hq k (by omega)]; exact a2, fun i hi => ?_⟩
    rw [hp _ (by omega), hp _ (by omega), hp _ (by omega)]
    exact a3 i hi
  · unfold mG
    rw [hm 44 (by omega), hb (m + 18) (by omega) (by omega) (by omega) (by omega) (by omega) (by omega) (by omega) (by omega) (by omega) (by omega) (by omega)]
    exact C.g_
  · rw [hm 35 (by omega)]
    exact C.ap_
theorem MIv.out (C : MIv G I J R K n m t c tl tt vl st tp lw sp ap sg B) (ht : t = m + 1 ∨ t = m + 2) (hI : ∀ b, m ≤ b → b < m + 21 → I' b = I b) (hJ : ∀ b, m ≤ b → b < m + 21 → J' b = J b) (hR : ∀ b, m ≤ b → b < m + 21 → R' b = R b) (hK : ∀ b, b < n → K' b = K b) (hn : n ≤ n') : MIv G I' J' R' K' n' m t c tl tt vl st tp lw sp ap sg B := by
  have hm := C.S_
  have S' : hMod G R' K' n' m t c := by
    have S1 : hMod G R K' n' m t c := Mod_mono (y := m + 1) hm hK (fun _ _ _ => rfl) hn (by omega)
    exact hMod_R S1 (hR m (by omega) (by omega))
  refine ⟨S', ?_, C.okv_, ?_, C.oks_, ?_, ?_, ?_, ?_, ?_, ?_⟩
  · unfold mV VM
    rw [hI m (by omega) (by omega), hI (m + 7) (by omega) (by omega), hI (m + 9) (by omega) (by omega), hI (m + 5) (by omega) (by omega)]
    exact C.v_
  · unfold mS
    rw [hI m (by omega) (by omega), hI (m + 13) (by omega) (by omega), hI (m + 17) (by omega) (by omega), hI (m + 20) (by omega) (by omega)]
    exact C.s_
  · unfold mT
    rw [hI m (by omega) (by omega), hI (m + 1) (by omega) (by omega)]
    exact C.tp_
  · unfold LMo
    rw [hI m (by omega) (by omega), hI (m + 3) (by omega) (by omega), hI (m + 2) (by omega) (by omega), hI (m + 4) (by omega) (by omega), hI (m + 16) (by omega) (by omega), hJ (m + 15) (by omega) (by omega)]
    exact C.lm_
  · unfold mHl
    rw [hI m (by omega) (by omega)]
    exact C.hl_
  · unfold mP
    rw [hI m (by omega) (by omega), hI (m + 11) (by omega) (by omega), hI (m + 12) (by omega) (by omega)]
    exact C.p_
  · unfold mG
    rw [hI m (by omega) (by omega), hI (m + 18) (by omega) (by omega)]
    exact C.g_
  · rw [hI m (by omega) (by omega)]
    exact C.ap_
theorem CIv.out (C : CIv G I R K n x m v w q nx lo M lk sq vl st tp lw sp ap sg B) (h : ∀ b, b < m ∨ m + 21 ≤ b → I' b = I b) (hR : ∀ b, b ≠ m → R' b = R b) : CIv G I' R' K n x m v w q nx lo M lk sq vl st tp lw sp ap sg B := by
  have vw := C.vw
  obtain ⟨g1, g2, g3, g4, g5, g6, g7, g8, g9, g10⟩ := C.gm
  have hnx := C.hr.2.2.1
  have hx : ∀ b, b < x + 112 → I' b = I b := fun b hb => h b (by omega)
  refine ⟨X_mono (y := m) C.X (fun _ _ => rfl) (fun b _ hb => hR b hb) (Nat.le_refl _) (by omega) (by omega) (by omega) (by omega) (by omega) (by omega) (by omega) (by omega) (by omega) (by omega) (by omega) (by omega) (by omega) (by omega) (by omega) (by omega) (by omega) (by omega), C.vw, C.gm, ?_, ?_, C.okv, ?_, C.oks, ?_, C.hd, ?_, ?_, ?_, ?_, ?_, ?_⟩
  · exact C.tp.same (by rw [hx _ (by omega)]) (hx _ (by omega))
  · exact C.cv.same (fun b b1 b2 => hx b (by omega))
  · exact C.cs.same11 (fun k hk => by rw [hx _ (by omega)]) (fun b b1 b2 => hx b (by omega))
  · exact C.hr.same (hx _ (by omega)) (fun j hj hne => hx _ (by omega))
  · exact C.lg.same (fun b b1 b2 => hx b (by omega))
  · exact C.im.same (by rw [hx _ (by omega)]) (fun b b1 b2 => hx b (by omega))
  · obtain ⟨c1, c2, c3, c4⟩ := C.cl
    refine ⟨c1, by rw [hx x (by omega)]; exact c2, fun k hk => ?_, ?_⟩
    · obtain ⟨a1, a2, a3, a4⟩ := c3 k hk
      have b1 := g3 k hk
      refine ⟨by rw [hR _ (by omega)]; exact a1, Law_mono (y := m) a2 (fun _ _ => rfl) (fun b _ hb => hR b hb) (Nat.le_refl _) (by omega), a3, fun j hj => ?_⟩
      rw [h _ (by omega)]
      exact a4 j hj
    · rw [hx x (by omega), hR (x + 3) (by omega)]
      exact c4
  · obtain ⟨c1, c2, c3⟩ := C.cp
    refine ⟨c1, by rw [hx x (by omega)]; exact c2, fun k hk => ?_⟩
    obtain ⟨a1, a2, a3⟩ := c3 k hk
    have b1 := g4 k hk
    exact ⟨by rw [hR _ (by omega)]; exact a1, Spr_mono (y := m) a2 (fun _ _ => rfl) (fun b _ hb => hR b hb) (Nat.le_refl _) (by omega), a3.same (fun b d1 d2 => h b (by omega))⟩
  · exact C.cg.same (fun b b1 b2 => hx b (by omega))
  · rw [hx x (by omega)]
    exact C.ap
end
