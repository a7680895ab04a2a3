/-! THE FACE: game: the model, its answer -/
theorem cho_low {Wc : Nat → Nat → Nat → Nat → Nat → Nat → Nat} {Y : Nat → Nat} {f g k : Nat} (hk : k < 27) : ∀ (j i : Nat) (T : Nat → Nat), choT Wc Y f g j i T k = T k
  | 0, _, _ => rfl
  | j + 1, i, T => by
    rw [choT, cho_low hk j (i + 1)]
    split
    · exact paint_low hk
    · rfl
theorem gam_low {Wc : Nat → Nat → Nat → Nat → Nat → Nat → Nat} {Y T : Nat → Nat} {f g a k : Nat} (hk : k < 27) : gamT Wc Y f g a T k = T k := by
  unfold gamT
  split
  · unfold daubT
    rw [up_ne (by omega), up_ne (by omega)]
  split
  · exact cho_low hk 9 0 T
  · rfl
section
variable {G : zG} {d : Nat} {I : Nat → Nat → Int32} {J : Nat → Nat → Int64} {R : Nat → Nat → Option Nat} {K : Nat → Nat × Nat} {n : Nat} {m t c : Nat} {tl : Nat → Nat} {tt : Nat → Nat → Nat} {vl : Vt} {st : Stt} {tp : Tpt} {lw : Lwt} {sp : Spt} {ap : Nat} {sg : Sgt} {B : Nat} {p1 p2 p3 p4 p5 : Int32} {Q : Option Value → zH → Prop}
theorem c_gameOf (C : MIv G I J R K n m t c tl tt vl st tp lw sp ap sg B) {f g a b e : Nat} (hf : f < vl.1) (hg : g < vl.1) (hfg : f ≠ g) (ha : a < 3) (hb : b < 3) (he : e < 2) (hB : B + 20 < 100000) (hQ : ∀ I' J' R' t' c', MIv G I' J' R' K n m t' c' tl tt vl st tp lw sp ap sg B → MF m I I' J J' R R' → Q (some (.int (if e = 0 then gainA st.1 (plyT vl lw st.1 f g a b) f a else gainA st.1 (plyT vl lw st.1 f g a b) g b))) (I', J', R', K, n)) : zC G (d + 38) mX12_gameOf 0 0 [.ref m, .int (nI f), .int (nI g), .int (nI a), .int (nI b), .int (nI e)] (I, J, R, K, n) Q := by
  have h6 := C.okv_.1.1
  refine zC.of (by decide) (Nat.le_of_ble_eq_true rfl) ?_
  refine wX12_gameOf_0 m t c C.S_ _ _ _ _ _ ?_
  refine c_copy (Mod_26 C.S_) (Mod_28 C.S_) (by omega) C.mr ?_
  intro I1 r1 _ g1
  refine ⟨_, rfl, rfl, ?_⟩
  have C1 := C.m14 g1
  have F1 : MF m I I1 J J R R := MF.z (fun b hb => g1 b (by omega))
  refine c_chooses (Z := fun _ => False) (T0 := st.1) (Tc := st.1) C1 hf hg ha (fun p hp h => absurd h not_false) (by omega) r1 C.oks_.1 (fun _ _ => rfl) ⟨fun _ _ _ _ => rfl, fun _ _ => Or.inl ⟨rfl, rfl, rfl⟩⟩ ?_
  intro I2 J2 R2 t2 c2 Tm2 C2 F2 r2 ok2 rl2
  refine ⟨_, _, _, rfl, rfl, _, _, C2.S_, ?_⟩
  refine c_chooses (T0 := st.1) C2 hg hf hb (fun p hp h h2 => ?_) (by omega) r2 ok2 (fun k hk => gam_low hk) rl2 ?_
  · rcases h with h | h
    · exact h
    · exact hfg (by omega)
  intro I3 J3 R3 t3 c3 Tm3 C3 F3 r3 ok3 rl3
  refine ⟨_, _, _, rfl, rfl, _, _, C3.S_, ?_⟩
  have Ff := (F1.tr F2).tr F3
  have done : ∀ (y z : Nat), y < 6 → z < 3 → ((if nI e = 0 then nI f else nI g) : Int32) = nI y → ((if nI e = 0 then nI a else nI b) : Int32) = nI z → (if e = 0 then gainA st.1 (plyT vl lw st.1 f g a b) f a else gainA st.1 (plyT vl lw st.1 f g a b) g b) = gainA st.1 (plyT vl lw st.1 f g a b) y z → zC G (d + 37) mX12_white 0 0 [.ref (m + 14), .int (if nI e = 0 then nI f else nI g)] (I3, J3, R3, K, n) (fun r h => ∃ (x15 : Int32) (I16 : Nat → Nat → Int32), r = some (.int x15) ∧ h = (I16, J3, R3, K, n) ∧ zC G (d + 37) mX12_white 0 0 [.ref (m + 13), .int (if nI e = 0 then nI f else nI g)] (I16, J3, R3, K, n) (fun r h => ∃ (x17 : Int32) (I18 : Nat → Nat → Int32), r = some (.int x17) ∧ h = (I18, J3, R3, K, n) ∧ Q (some (.int ((x15 - x17) - (if ((if nI e = 0 then nI a else nI b) : Int32) = 2 then 2 else 0)))) (I18, J3, R3, K, n))) := by
    intro y z hy hz e1 e2 e3
    rw [e1]
    refine c_mwhite (Mod_28 C3.S_) r3 hy ?_
    refine ⟨_, _, rfl, rfl, ?_⟩
    refine c_mwhite (Mod_26 C3.S_) C3.mr hy ?_
    refine ⟨_, _, rfl, rfl, ?_⟩
    rw [e2]
    refine qI ?_ (hQ I3 J3 R3 t3 c3 C3 Ff)
    rw [e3]
    unfold gainA plyT
    rw [rl3.1 (27 + 3 * y) (by omega) (by omega) (by omega), rl3.1 (28 + 3 * y) (by omega) (by omega) (by omega)]
    by_cases e : z = 2
    · rw [if_pos e, if_pos (show nI z = (2 : Int32) by rw [e]; rfl)]
    · rw [if_neg e, if_neg (show ¬ nI z = (2 : Int32) from fun h => e ((tk_eq (b := 2) (by omega) (by omega)).mp h))]
  by_cases h : e = 0
  · have hi : nI e = (0 : Int32) := by rw [h]; rfl
    exact done f a (by omega) ha (if_pos hi) (if_pos hi) (if_pos h)
  · have hi : ¬ nI e = (0 : Int32) := fun h2 => h ((tk_eq (b := 0) (by omega) (by omega)).mp h2)
    exact done g b (by omega) hb (if_neg hi) (if_neg hi) (if_neg h)
theorem y_game_y (C : MIv G I J R K n m t c tl tt vl st tp lw sp ap sg B) {f g a b e : Nat} (hf : f < vl.1) (hg : g < vl.1) (hfg : f ≠ g) (ha : a < 3) (hb : b < 3) (he : e < 2) (hB : B + 20 < 100000) : YL G (d + 39) mX12_game [.ref m, .int (nI f), .int (nI g), .int (nI a), .int (nI b), .int (nI e)] I J R K n m tl tt (if e = 0 then gainA st.1 (plyT vl lw st.1 f g a b) f a else gainA st.1 (plyT vl lw st.1 f g a b) g b) vl st tp lw sp ap sg B := by
  intro Q hQ
  have h6 := C.okv_.1.1
  obtain ⟨M1, f1⟩ := C.z0 (y := 0)
  refine zC.of (by decide) (Nat.le_of_ble_eq_true rfl) ?_
  refine wX12_game_0 m t c C.S_ _ _ _ _ _ ?_
  rintro _ rfl
  refine c_areTwo C.S_ M1.v_.1.1 h6 (fun _ => ?_) (fun h => absurd ⟨f, g, hf, hg, hfg, rfl, rfl⟩ h)
  refine ⟨_, _, rfl, rfl, fun h => absurd h (by decide), fun _ => ?_⟩
  refine c_in_y (N := 3) (by decide) (by decide) ha ?_
  refine ⟨_, _, rfl, rfl, ?_⟩
  refine ⟨fun h => absurd h (by decide), fun _ => ?_⟩
  refine c_in_y (N := 3) (by decide) (by decide) hb ?_
  refine ⟨_, _, rfl, rfl, ?_⟩
  refine ⟨fun h => absurd h (by decide), fun _ => ?_⟩
  refine c_in_y (N := 2) (by decide) (by decide) he ?_
  refine ⟨_, _, rfl, rfl, ?_⟩
  refine ⟨fun h => absurd h (by decide), fun _ => ?_⟩
  refine c_gameOf M1 hf hg hfg ha hb he hB ?_
  intro I' J' R' t' c' C' F'
  have F0 := (MF.z (J := J) (R := R) f1).tr F'
  exact ⟨_, _, _, _, rfl, rfl, _, _, C'.S_, hQ I' J' R' t' c' C' F0.1 F0.2⟩
theorem y_game_n (C : MIv G I J R K n m t c tl tt vl st tp lw sp ap sg B) (hn : ¬ isGam vl.1 p1 p2 p3 p4 p5) : YL G (d + 3) mX12_game [.ref m, .int p1, .int p2, .int p3, .int p4, .int p5] I J R K n m tl tt (-1000000) vl st tp lw sp ap sg B := by
  intro Q hQ
  have h6 := C.okv_.1.1
  obtain ⟨M1, f1⟩ := C.z0 (y := 0)
  replace hQ := hQ _ J R t c M1 (fun b hb => ⟨f1 b hb, rfl⟩) (fun _ _ => rfl)
  refine zC.of (by decide) (Nat.le_of_ble_eq_true rfl) ?_
  refine wX12_game_0 m t c C.S_ _ _ _ _ _ ?_
  rintro _ rfl
  refine c_areTwo C.S_ M1.v_.1.1 h6 (fun h2 => ?_) (fun _ => ⟨_, _, rfl, rfl, fun _ => hQ, fun h => absurd rfl h⟩)
  refine ⟨_, _, rfl, rfl, fun h => absurd h (by decide), fun _ => ?_⟩
  rcases bad_or (N := 3) (by omega) p3 with h | ⟨a, ha, rfl⟩
  · refine c_in_n (N := 3) (by decide) (by decide) h ?_
    refine ⟨_, _, rfl, rfl, ?_⟩
    exact ⟨fun _ => hQ, fun h => absurd rfl h⟩
  refine c_in_y (N := 3) (by decide) (by decide) ha ?_
  refine ⟨_, _, rfl, rfl, ?_⟩
  refine ⟨fun h => absurd h (by decide), fun _ => ?_⟩
  rcases bad_or (N := 3) (by omega) p4 with h | ⟨b, hb, rfl⟩
  · refine c_in_n (N := 3) (by decide) (by decide) h ?_
    refine ⟨_, _, rfl, rfl, ?_⟩
    exact ⟨fun _ => hQ, fun h => absurd rfl h⟩
  refine c_in_y (N := 3) (by decide) (by decide) hb ?_
  refine ⟨_, _, rfl, rfl, ?_⟩
  refine ⟨fun h => absurd h (by decide), fun _ => ?_⟩
  rcases bad_or (N := 2) (by omega) p5 with h | ⟨e, he, rfl⟩
  · refine c_in_n (N := 2) (by decide) (by decide) h ?_
    refine ⟨_, _, rfl, rfl, ?_⟩
    exact ⟨fun _ => hQ, fun h => absurd rfl h⟩
  exact absurd ⟨h2, a, b, e, ha, hb, he, rfl, rfl, rfl⟩ hn
end
