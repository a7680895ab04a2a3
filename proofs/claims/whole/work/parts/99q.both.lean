/-! BOTH SIDES OF A CALL -/
def BB (X Y : Int32 → Vt → Stt → Tpt → Lwt → Spt → Nat → Sgt → Nat → Prop) (B : Nat) : Prop := ∃ r vl st tp lw sp ap sg B', B' ≤ B + 30 ∧ X r vl st tp lw sp ap sg B' ∧ Y r vl st tp lw sp ap sg B'
section
variable {G : zG} {e : Nat} {I : Nat → Nat → Int32} {J : Nat → Nat → Int64} {R : Nat → Nat → Option Nat} {K : Nat → Nat × Nat} {n x m v w q nx lo M t c : Nat} {lk sq : Nat → Nat} {tl : Nat → Nat} {tt : Nat → Nat → Nat} {vl : Vt} {st : Stt} {tp : Tpt} {lw : Lwt} {sp : Spt} {ap : Nat} {sg : Sgt} {B : Nat}
theorem b_count {p : Int32} (C : CIv G I R K n x m v w q nx lo M lk sq vl st tp lw sp ap sg B) (hB : B + 40 < 100000) : BB (XC G (e + 60) mX11_count [.ref x, .int p] I J R K n x m) (fun r vl' st' tp' lw' sp' ap' sg' B' => ∀ I1 J1 R1 K1 n1, MIv G I1 J1 R1 K1 n1 m t c tl tt vl st tp lw sp ap sg B → YC G (e + 60) mX12_count [.ref m, .int p] I1 J1 R1 K1 n1 m t c tl tt r vl' st' tp' lw' sp' ap' sg' B') B := by
  exact ⟨_, _, _, _, _, _, _, _, _, by omega, x_count C, fun I1 J1 R1 K1 n1 M1 => y_count M1⟩
theorem b_feed {p1 : Int32} {p2 : Int32} {p3 : Int32} {p4 : Int32} {p5 : Int32} (C : CIv G I R K n x m v w q nx lo M lk sq vl st tp lw sp ap sg B) (hB : B + 40 < 100000) : BB (XC G (e + 60) mX11_feed [.ref x, .int p1, .int p2, .int p3, .int p4, .int p5] I J R K n x m) (fun r vl' st' tp' lw' sp' ap' sg' B' => ∀ I1 J1 R1 K1 n1, MIv G I1 J1 R1 K1 n1 m t c tl tt vl st tp lw sp ap sg B → YC G (e + 60) mX12_feed [.ref m, .int p1, .int p2, .int p3, .int p4, .int p5] I1 J1 R1 K1 n1 m t c tl tt r vl' st' tp' lw' sp' ap' sg' B') B := by
  by_cases h : tp.1 + nz5 p1 p2 p3 p4 p5 ≤ 240
  · skip
    exact ⟨_, _, _, _, _, _, _, _, _, by omega, x_feed_y C h, fun I1 J1 R1 K1 n1 M1 => y_feed_y M1 h⟩
  · skip
    exact ⟨_, _, _, _, _, _, _, _, _, by omega, x_feed_n C h, fun I1 J1 R1 K1 n1 M1 => y_feed_n M1 h⟩
theorem b_end {p : Int32} (C : CIv G I R K n x m v w q nx lo M lk sq vl st tp lw sp ap sg B) (hB : B + 40 < 100000) : BB (XC G (e + 60) mX11_end [.ref x, .int p] I J R K n x m) (fun r vl' st' tp' lw' sp' ap' sg' B' => ∀ I1 J1 R1 K1 n1, MIv G I1 J1 R1 K1 n1 m t c tl tt vl st tp lw sp ap sg B → YC G (e + 60) mX12_end [.ref m, .int p] I1 J1 R1 K1 n1 m t c tl tt r vl' st' tp' lw' sp' ap' sg' B') B := by
  by_cases h : ∃ k : Nat, k ≤ tp.1 ∧ p = nI k
  · obtain ⟨k, hk, rfl⟩ := h
    exact ⟨_, _, _, _, _, _, _, _, _, by omega, x_end_y C hk, fun I1 J1 R1 K1 n1 M1 => y_end_y M1 hk⟩
  · skip
    exact ⟨_, _, _, _, _, _, _, _, _, by omega, x_end_n C (fun k e _ => Nat.lt_of_not_le (fun h2 => h ⟨k, h2, e⟩)), fun I1 J1 R1 K1 n1 M1 => y_end_n M1 (fun k e _ => Nat.lt_of_not_le (fun h2 => h ⟨k, h2, e⟩))⟩
theorem b_fault {p : Int32} (C : CIv G I R K n x m v w q nx lo M lk sq vl st tp lw sp ap sg B) (hB : B + 40 < 100000) : BB (XD G (e + 60) mX11_fault [.ref x, .int p] I J R K n x m) (fun r vl' st' tp' lw' sp' ap' sg' B' => ∀ I1 J1 R1 K1 n1, MIv G I1 J1 R1 K1 n1 m t c tl tt vl st tp lw sp ap sg B → YL G (e + 60) mX12_fault [.ref m, .int p] I1 J1 R1 K1 n1 m tl tt r vl' st' tp' lw' sp' ap' sg' B') B := by
  have h6 := C.okv.1.1
  have h9 := C.okv.2.1
  rcases bad_or (N := 3) (by omega) p with h | ⟨f, hf, rfl⟩
  · skip
    exact ⟨_, _, _, _, _, _, _, _, _, by omega, x_fault_n C h, fun I1 J1 R1 K1 n1 M1 => y_fault_n M1 h⟩
  · skip
    exact ⟨_, _, _, _, _, _, _, _, _, by omega, x_fault_y C hf, fun I1 J1 R1 K1 n1 M1 => y_fault_y M1 hf⟩
theorem b_wrong {p : Int32} {p2 : Int32} (C : CIv G I R K n x m v w q nx lo M lk sq vl st tp lw sp ap sg B) (hB : B + 40 < 100000) : BB (XC G (e + 60) mX11_wrong [.ref x, .int p, .int p2] I J R K n x m) (fun r vl' st' tp' lw' sp' ap' sg' B' => ∀ I1 J1 R1 K1 n1, MIv G I1 J1 R1 K1 n1 m t c tl tt vl st tp lw sp ap sg B → YL G (e + 60) mX12_wrong [.ref m, .int p, .int p2] I1 J1 R1 K1 n1 m tl tt r vl' st' tp' lw' sp' ap' sg' B') B := by
  rcases shut_or st.1 p with h | ⟨k, hk, rfl, ho⟩
  · skip
    exact ⟨_, _, _, _, _, _, _, _, _, by omega, x_wrong_n C h, fun I1 J1 R1 K1 n1 M1 => y_wrong_n M1 h⟩
  · skip
    exact ⟨_, _, _, _, _, _, _, _, _, by omega, x_wrong_y C hk ho, fun I1 J1 R1 K1 n1 M1 => y_wrong_y M1 hk ho⟩
theorem b_forgive {p : Int32} (C : CIv G I R K n x m v w q nx lo M lk sq vl st tp lw sp ap sg B) (hB : B + 40 < 100000) : BB (XC G (e + 60) mX11_forgive [.ref x, .int p] I J R K n x m) (fun r vl' st' tp' lw' sp' ap' sg' B' => ∀ I1 J1 R1 K1 n1, MIv G I1 J1 R1 K1 n1 m t c tl tt vl st tp lw sp ap sg B → YL G (e + 60) mX12_forgive [.ref m, .int p] I1 J1 R1 K1 n1 m tl tt r vl' st' tp' lw' sp' ap' sg' B') B := by
  rcases shut_or st.1 p with h | ⟨k, hk, rfl, ho⟩
  · skip
    exact ⟨_, _, _, _, _, _, _, _, _, by omega, x_forgive_n C h, fun I1 J1 R1 K1 n1 M1 => y_forgive_n M1 h⟩
  · skip
    exact ⟨_, _, _, _, _, _, _, _, _, by omega, x_forgive_y C hk ho (by omega), fun I1 J1 R1 K1 n1 M1 => y_forgive_y M1 C.hd.1 hk ho (by omega)⟩
theorem b_law {p : Int32} (C : CIv G I R K n x m v w q nx lo M lk sq vl st tp lw sp ap sg B) (hB : B + 40 < 100000) : BB (XD G (e + 60) mX11_law [.ref x, .int p] I J R K n x m) (fun r vl' st' tp' lw' sp' ap' sg' B' => ∀ I1 J1 R1 K1 n1, MIv G I1 J1 R1 K1 n1 m t c tl tt vl st tp lw sp ap sg B → YC G (e + 60) mX12_law [.ref m, .int p] I1 J1 R1 K1 n1 m t c tl tt r vl' st' tp' lw' sp' ap' sg' B') B := by
  have l4 := C.cl.1
  by_cases h1 : p = -1
  · subst h1
    exact ⟨_, _, _, _, _, _, _, _, _, by omega, x_law_0 C, fun I1 J1 R1 K1 n1 M1 => y_law_0 M1⟩
  rcases bad_or (N := lw.1) (by omega) p with h | ⟨k, hk, rfl⟩
  · skip
    exact ⟨_, _, _, _, _, _, _, _, _, by omega, x_law_n C h h1, fun I1 J1 R1 K1 n1 M1 => y_law_n M1 h h1⟩
  exact ⟨_, _, _, _, _, _, _, _, _, by omega, x_law_y C hk, fun I1 J1 R1 K1 n1 M1 => y_law_y M1 hk⟩
theorem b_apples {p : Int32} (C : CIv G I R K n x m v w q nx lo M lk sq vl st tp lw sp ap sg B) (hB : B + 40 < 100000) : BB (XC G (e + 60) mX11_apples [.ref x, .int p] I J R K n x m) (fun r vl' st' tp' lw' sp' ap' sg' B' => ∀ I1 J1 R1 K1 n1, MIv G I1 J1 R1 K1 n1 m t c tl tt vl st tp lw sp ap sg B → YC G (e + 60) mX12_apples [.ref m, .int p] I1 J1 R1 K1 n1 m t c tl tt r vl' st' tp' lw' sp' ap' sg' B') B := by
  by_cases h : canApp ap p
  · obtain ⟨k, hk, rfl, hne⟩ := h
    exact ⟨_, _, _, _, _, _, _, _, _, by omega, x_apples_y C hk hne, fun I1 J1 R1 K1 n1 M1 => y_apples_y M1 hk hne⟩
  · skip
    exact ⟨_, _, _, _, _, _, _, _, _, by omega, x_apples_n C h, fun I1 J1 R1 K1 n1 M1 => y_apples_n M1 h⟩
theorem b_paint {p : Int32} {p2 : Int32} (C : CIv G I R K n x m v w q nx lo M lk sq vl st tp lw sp ap sg B) (hB : B + 40 < 100000) : BB (XC G (e + 60) mX11_paint [.ref x, .int p, .int p2] I J R K n x m) (fun r vl' st' tp' lw' sp' ap' sg' B' => ∀ I1 J1 R1 K1 n1, MIv G I1 J1 R1 K1 n1 m t c tl tt vl st tp lw sp ap sg B → YC G (e + 60) mX12_paint [.ref m, .int p, .int p2] I1 J1 R1 K1 n1 m t c tl tt r vl' st' tp' lw' sp' ap' sg' B') B := by
  by_cases h : canPaint vl.1 vl.2.1 st.1 p p2
  · obtain ⟨f, k, rfl, rfl, hf, h1, h9, hl, hb⟩ := h
    exact ⟨_, _, _, _, _, _, _, _, _, by omega, x_paint_y C hf h1 h9 hl hb, fun I1 J1 R1 K1 n1 M1 => y_paint_y M1 C.hd.1 hf h1 h9 hl hb⟩
  · skip
    exact ⟨_, _, _, _, _, _, _, _, _, by omega, x_paint_n C h, fun I1 J1 R1 K1 n1 M1 => y_paint_n M1 h⟩
theorem b_inspect {p : Int32} (C : CIv G I R K n x m v w q nx lo M lk sq vl st tp lw sp ap sg B) (hB : B + 40 < 100000) : BB (XC G (e + 60) mX11_inspect [.ref x, .int p] I J R K n x m) (fun r vl' st' tp' lw' sp' ap' sg' B' => ∀ I1 J1 R1 K1 n1, MIv G I1 J1 R1 K1 n1 m t c tl tt vl st tp lw sp ap sg B → YC G (e + 60) mX12_inspect [.ref m, .int p] I1 J1 R1 K1 n1 m t c tl tt r vl' st' tp' lw' sp' ap' sg' B') B := by
  by_cases h : canInspect vl.1 st.1 p
  · obtain ⟨f, rfl, hf, h1⟩ := h
    exact ⟨_, _, _, _, _, _, _, _, _, by omega, x_inspect_y C hf h1, fun I1 J1 R1 K1 n1 M1 => y_inspect_y M1 C.hd.1 hf h1⟩
  · skip
    exact ⟨_, _, _, _, _, _, _, _, _, by omega, x_inspect_n C h, fun I1 J1 R1 K1 n1 M1 => y_inspect_n M1 h⟩
theorem b_sin {p : Int32} {p2 : Int32} {p3 : Int32} (C : CIv G I R K n x m v w q nx lo M lk sq vl st tp lw sp ap sg B) (hB : B + 40 < 100000) : BB (XC G (e + 60) mX11_sin [.ref x, .int p, .int p2, .int p3] I J R K n x m) (fun r vl' st' tp' lw' sp' ap' sg' B' => ∀ I1 J1 R1 K1 n1, MIv G I1 J1 R1 K1 n1 m t c tl tt vl st tp lw sp ap sg B → YC G (e + 60) mX12_sin [.ref m, .int p, .int p2, .int p3] I1 J1 R1 K1 n1 m t c tl tt r vl' st' tp' lw' sp' ap' sg' B') B := by
  by_cases h : canSin vl.1 st.1 p p2 p3
  · obtain ⟨a, b, z, rfl, rfl, rfl, ha, hb, hab, z1, z9, hf⟩ := h
    exact ⟨_, _, _, _, _, _, _, _, _, by omega, x_sin_y C ha hb hab z1 z9 hf, fun I1 J1 R1 K1 n1 M1 => y_sin_y M1 C.hd.1 ha hb hab z1 z9 hf⟩
  · skip
    exact ⟨_, _, _, _, _, _, _, _, _, by omega, x_sin_n C h, fun I1 J1 R1 K1 n1 M1 => y_sin_n M1 h⟩
theorem b_buy {p : Int32} (C : CIv G I R K n x m v w q nx lo M lk sq vl st tp lw sp ap sg B) (hB : B + 40 < 100000) : BB (XC G (e + 60) mX11_buy [.ref x, .int p] I J R K n x m) (fun r vl' st' tp' lw' sp' ap' sg' B' => ∀ I1 J1 R1 K1 n1, MIv G I1 J1 R1 K1 n1 m t c tl tt vl st tp lw sp ap sg B → YC G (e + 60) mX12_buy [.ref m, .int p] I1 J1 R1 K1 n1 m t c tl tt r vl' st' tp' lw' sp' ap' sg' B') B := by
  by_cases h : canBuy vl.1 st.1 p
  · obtain ⟨hv, k, rfl, k1, k20, kc, kl⟩ := h
    exact ⟨_, _, _, _, _, _, _, _, _, by omega, x_buy_y C hv k1 k20 kc kl, fun I1 J1 R1 K1 n1 M1 => y_buy_y M1 C.hd.1 hv k1 k20 kc kl⟩
  · skip
    exact ⟨_, _, _, _, _, _, _, _, _, by omega, x_buy_n C h, fun I1 J1 R1 K1 n1 M1 => y_buy_n M1 h⟩
theorem b_give {p : Int32} (C : CIv G I R K n x m v w q nx lo M lk sq vl st tp lw sp ap sg B) (hB : B + 40 < 100000) : BB (XC G (e + 60) mX11_give [.ref x, .int p] I J R K n x m) (fun r vl' st' tp' lw' sp' ap' sg' B' => ∀ I1 J1 R1 K1 n1, MIv G I1 J1 R1 K1 n1 m t c tl tt vl st tp lw sp ap sg B → YC G (e + 60) mX12_give [.ref m, .int p] I1 J1 R1 K1 n1 m t c tl tt r vl' st' tp' lw' sp' ap' sg' B') B := by
  by_cases h : canGive vl.1 st.1 p
  · obtain ⟨hv, k, rfl, k1, k50, kl⟩ := h
    exact ⟨_, _, _, _, _, _, _, _, _, by omega, x_give_y C hv k1 k50 kl, fun I1 J1 R1 K1 n1 M1 => y_give_y M1 C.hd.1 hv k1 k50 kl⟩
  · skip
    exact ⟨_, _, _, _, _, _, _, _, _, by omega, x_give_n C h, fun I1 J1 R1 K1 n1 M1 => y_give_n M1 h⟩
theorem b_day  (C : CIv G I R K n x m v w q nx lo M lk sq vl st tp lw sp ap sg B) (hB : B + 40 < 100000) : BB (XC G (e + 60) mX11_day [.ref x] I J R K n x m) (fun r vl' st' tp' lw' sp' ap' sg' B' => ∀ I1 J1 R1 K1 n1, MIv G I1 J1 R1 K1 n1 m t c tl tt vl st tp lw sp ap sg B → YC G (e + 60) mX12_day [.ref m] I1 J1 R1 K1 n1 m t c tl tt r vl' st' tp' lw' sp' ap' sg' B') B := by
  by_cases h : 0 < vl.1 ∧ st.1 49 < 999
  · obtain ⟨hv, h9⟩ := h
    exact ⟨_, _, _, _, _, _, _, _, _, by omega, x_day_y C hv h9, fun I1 J1 R1 K1 n1 M1 => y_day_y M1 C.hd.1 hv h9⟩
  · skip
    exact ⟨_, _, _, _, _, _, _, _, _, by omega, x_day_n C h, fun I1 J1 R1 K1 n1 M1 => y_day_n M1 h⟩
theorem b_years {p : Int32} {s : Int64} (C : CIv G I R K n x m v w q nx lo M lk sq vl st tp lw sp ap sg B) (hB : B + 40 < 100000) : BB (XD G (e + 60) mX11_years [.ref x, .int p, .long s] I J R K n x m) (fun r vl' st' tp' lw' sp' ap' sg' B' => ∀ I1 J1 R1 K1 n1, MIv G I1 J1 R1 K1 n1 m t c tl tt vl st tp lw sp ap sg B → YL G (e + 60) mX12_years [.ref m, .int p, .long s] I1 J1 R1 K1 n1 m tl tt r vl' st' tp' lw' sp' ap' sg' B') B := by
  by_cases h : 0 < vl.1 ∧ ∃ k : Nat, p = nI k ∧ 1 ≤ k ∧ k ≤ 30 ∧ st.1 49 + k ≤ 999
  · obtain ⟨hv, k, rfl, k1, k30, hk⟩ := h
    exact ⟨_, _, _, _, _, _, _, _, _, by omega, x_years_y C hv k1 k30 hk (by omega), fun I1 J1 R1 K1 n1 M1 => y_years_y M1 C.hd.1 hv k1 k30 hk (by omega)⟩
  · skip
    exact ⟨_, _, _, _, _, _, _, _, _, by omega, x_years_n C h, fun I1 J1 R1 K1 n1 M1 => y_years_n M1 h⟩
theorem b_undo  (C : CIv G I R K n x m v w q nx lo M lk sq vl st tp lw sp ap sg B) (hB : B + 40 < 100000) : BB (XC G (e + 60) mX11_undo [.ref x] I J R K n x m) (fun r vl' st' tp' lw' sp' ap' sg' B' => ∀ I1 J1 R1 K1 n1, MIv G I1 J1 R1 K1 n1 m t c tl tt vl st tp lw sp ap sg B → YC G (e + 60) mX12_undo [.ref m] I1 J1 R1 K1 n1 m t c tl tt r vl' st' tp' lw' sp' ap' sg' B') B := by
  obtain ⟨T, LG, hs, im⟩ := st
  cases hs with
  | nil =>
    exact ⟨_, _, _, _, _, _, _, _, _, by omega, x_undo_n C, fun I1 J1 R1 K1 n1 M1 => y_undo_n M1⟩
  | cons T0 hs =>
    exact ⟨_, _, _, _, _, _, _, _, _, by omega, x_undo_y C, fun I1 J1 R1 K1 n1 M1 => y_undo_y M1⟩
theorem b_log {p : Int32} {p2 : Int32} (C : CIv G I R K n x m v w q nx lo M lk sq vl st tp lw sp ap sg B) (hB : B + 40 < 100000) : BB (XC G (e + 60) mX11_log [.ref x, .int p, .int p2] I J R K n x m) (fun r vl' st' tp' lw' sp' ap' sg' B' => ∀ I1 J1 R1 K1 n1, MIv G I1 J1 R1 K1 n1 m t c tl tt vl st tp lw sp ap sg B → YC G (e + 60) mX12_log [.ref m, .int p, .int p2] I1 J1 R1 K1 n1 m t c tl tt r vl' st' tp' lw' sp' ap' sg' B') B := by
  have h6 := C.okv.1.1
  have h9 := C.okv.2.1
  rcases bad_or (N := min 60 (st.1 49)) (by omega) p with h | ⟨f, hf, rfl⟩
  · skip
    exact ⟨_, _, _, _, _, _, _, _, _, by omega, x_log_n C (Or.inl h), fun I1 J1 R1 K1 n1 M1 => y_log_n M1 (Or.inl h)⟩
  rcases bad_or (N := 3) (by omega) p2 with h | ⟨k, hk, rfl⟩
  · skip
    exact ⟨_, _, _, _, _, _, _, _, _, by omega, x_log_n C (Or.inr h), fun I1 J1 R1 K1 n1 M1 => y_log_n M1 (Or.inr h)⟩
  exact ⟨_, _, _, _, _, _, _, _, _, by omega, x_log_y C hf hk, fun I1 J1 R1 K1 n1 M1 => y_log_y M1 hf hk⟩
theorem b_step {p : Int32} {p2 : Int32} {p3 : Int32} (C : CIv G I R K n x m v w q nx lo M lk sq vl st tp lw sp ap sg B) (hB : B + 40 < 100000) : BB (XC G (e + 60) mX11_step [.ref x, .int p, .int p2, .int p3] I J R K n x m) (fun r vl' st' tp' lw' sp' ap' sg' B' => ∀ I1 J1 R1 K1 n1, MIv G I1 J1 R1 K1 n1 m t c tl tt vl st tp lw sp ap sg B → YC G (e + 60) mX12_step [.ref m, .int p, .int p2, .int p3] I1 J1 R1 K1 n1 m t c tl tt r vl' st' tp' lw' sp' ap' sg' B') B := by
  by_cases h : isStp sp p p2 p3
  · obtain ⟨k, i, j, hk, hi, hj, rfl, rfl, rfl⟩ := h
    exact ⟨_, _, _, _, _, _, _, _, _, by omega, x_step_y C hk hi hj, fun I1 J1 R1 K1 n1 M1 => y_step_y M1 hk hi hj⟩
  · skip
    exact ⟨_, _, _, _, _, _, _, _, _, by omega, x_step_n C h, fun I1 J1 R1 K1 n1 M1 => y_step_n M1 h⟩
theorem b_run {p : Int32} {p2 : Int32} (C : CIv G I R K n x m v w q nx lo M lk sq vl st tp lw sp ap sg B) (hB : B + 40 < 100000) : BB (XC G (e + 60) mX11_run [.ref x, .int p, .int p2] I J R K n x m) (fun r vl' st' tp' lw' sp' ap' sg' B' => ∀ I1 J1 R1 K1 n1, MIv G I1 J1 R1 K1 n1 m t c tl tt vl st tp lw sp ap sg B → YL G (e + 60) mX12_run [.ref m, .int p, .int p2] I1 J1 R1 K1 n1 m tl tt r vl' st' tp' lw' sp' ap' sg' B') B := by
  have l4 := C.cp.1
  by_cases hv : 0 < vl.1
  case neg =>
    exact ⟨_, _, _, _, _, _, _, _, _, by omega, x_run_n C (Or.inl hv), fun I1 J1 R1 K1 n1 M1 => y_run_n M1 (Or.inl hv)⟩
  rcases bad_or (N := sp.1) (by omega) p with h | ⟨k, hk, rfl⟩
  · skip
    exact ⟨_, _, _, _, _, _, _, _, _, by omega, x_run_n C (Or.inr (Or.inl h)), fun I1 J1 R1 K1 n1 M1 => y_run_n M1 (Or.inr (Or.inl h))⟩
  rcases bad_or (N := 2) (by omega) p2 with h | ⟨z, hz, rfl⟩
  · skip
    exact ⟨_, _, _, _, _, _, _, _, _, by omega, x_run_n C (Or.inr (Or.inr h)), fun I1 J1 R1 K1 n1 M1 => y_run_n M1 (Or.inr (Or.inr h))⟩
  exact ⟨_, _, _, _, _, _, _, _, _, by omega, x_run_y C hv hk hz (by omega), fun I1 J1 R1 K1 n1 M1 => y_run_y M1 hv hk hz (by omega)⟩
theorem b_perform {p : Int32} (C : CIv G I R K n x m v w q nx lo M lk sq vl st tp lw sp ap sg B) (hB : B + 40 < 100000) : BB (XC G (e + 60) mX11_perform [.ref x, .int p] I J R K n x m) (fun r vl' st' tp' lw' sp' ap' sg' B' => ∀ I1 J1 R1 K1 n1, MIv G I1 J1 R1 K1 n1 m t c tl tt vl st tp lw sp ap sg B → YL G (e + 60) mX12_perform [.ref m, .int p] I1 J1 R1 K1 n1 m tl tt r vl' st' tp' lw' sp' ap' sg' B') B := by
  have l4 := C.cp.1
  by_cases hv : 0 < vl.1
  case neg =>
    exact ⟨_, _, _, _, _, _, _, _, _, by omega, x_perform_n C (Or.inl hv), fun I1 J1 R1 K1 n1 M1 => y_perform_n M1 (Or.inl hv)⟩
  rcases bad_or (N := sp.1) (by omega) p with h | ⟨k, hk, rfl⟩
  · skip
    exact ⟨_, _, _, _, _, _, _, _, _, by omega, x_perform_n C (Or.inr h), fun I1 J1 R1 K1 n1 M1 => y_perform_n M1 (Or.inr h)⟩
  exact ⟨_, _, _, _, _, _, _, _, _, by omega, x_perform_y C hv hk (by omega), fun I1 J1 R1 K1 n1 M1 => y_perform_y M1 C.hd.1 hv hk (by omega)⟩
theorem b_least {p1 : Int32} {p2 : Int32} (C : CIv G I R K n x m v w q nx lo M lk sq vl st tp lw sp ap sg B) (hB : B + 40 < 100000) : BB (XC G (e + 60) mX11_least [.ref x, .int p1, .int p2] I J R K n x m) (fun r vl' st' tp' lw' sp' ap' sg' B' => ∀ I1 J1 R1 K1 n1, MIv G I1 J1 R1 K1 n1 m t c tl tt vl st tp lw sp ap sg B → YL G (e + 60) mX12_least [.ref m, .int p1, .int p2] I1 J1 R1 K1 n1 m tl tt r vl' st' tp' lw' sp' ap' sg' B') B := by
  by_cases h : ∃ f k : Nat, f < vl.1 ∧ k < 2 ∧ p1 = nI f ∧ p2 = nI k
  · obtain ⟨f, k, hf, hk, rfl, rfl⟩ := h
    exact ⟨_, _, _, _, _, _, _, _, _, by omega, x_least_y C hf hk (by omega), fun I1 J1 R1 K1 n1 M1 => y_least_y M1 hf hk (by omega)⟩
  · skip
    exact ⟨_, _, _, _, _, _, _, _, _, by omega, x_least_n C h, fun I1 J1 R1 K1 n1 M1 => y_least_n M1 h⟩
theorem b_every {p1 : Int32} (C : CIv G I R K n x m v w q nx lo M lk sq vl st tp lw sp ap sg B) (hB : B + 40 < 100000) : BB (XC G (e + 60) mX11_every [.ref x, .int p1] I J R K n x m) (fun r vl' st' tp' lw' sp' ap' sg' B' => ∀ I1 J1 R1 K1 n1, MIv G I1 J1 R1 K1 n1 m t c tl tt vl st tp lw sp ap sg B → YL G (e + 60) mX12_every [.ref m, .int p1] I1 J1 R1 K1 n1 m tl tt r vl' st' tp' lw' sp' ap' sg' B') B := by
  by_cases h : 0 < vl.1 ∧ ∃ k : Nat, k < 2 ∧ p1 = nI k
  · obtain ⟨hv, k, hk, rfl⟩ := h
    exact ⟨_, _, _, _, _, _, _, _, _, by omega, x_every_y C hv hk (by omega), fun I1 J1 R1 K1 n1 M1 => y_every_y M1 hv hk (by omega)⟩
  · skip
    exact ⟨_, _, _, _, _, _, _, _, _, by omega, x_every_n C h, fun I1 J1 R1 K1 n1 M1 => y_every_n M1 h⟩
theorem b_richest {p1 : Int32} {p2 : Int32} (C : CIv G I R K n x m v w q nx lo M lk sq vl st tp lw sp ap sg B) (hB : B + 40 < 100000) : BB (XC G (e + 60) mX11_richest [.ref x, .int p1, .int p2] I J R K n x m) (fun r vl' st' tp' lw' sp' ap' sg' B' => ∀ I1 J1 R1 K1 n1, MIv G I1 J1 R1 K1 n1 m t c tl tt vl st tp lw sp ap sg B → YL G (e + 60) mX12_richest [.ref m, .int p1, .int p2] I1 J1 R1 K1 n1 m tl tt r vl' st' tp' lw' sp' ap' sg' B') B := by
  by_cases h : 0 < vl.1 ∧ ∃ k e : Nat, k < 10 ∧ e < 2 ∧ p1 = nI k ∧ p2 = nI e
  · obtain ⟨hv, k, z, hk, hz, rfl, rfl⟩ := h
    exact ⟨_, _, _, _, _, _, _, _, _, by omega, x_richest_y C hv hk hz (by omega), fun I1 J1 R1 K1 n1 M1 => y_richest_y M1 hv hk hz (by omega)⟩
  · skip
    exact ⟨_, _, _, _, _, _, _, _, _, by omega, x_richest_n C h, fun I1 J1 R1 K1 n1 M1 => y_richest_n M1 h⟩
theorem b_pairs {p1 : Int32} (C : CIv G I R K n x m v w q nx lo M lk sq vl st tp lw sp ap sg B) (hB : B + 40 < 100000) : BB (XC G (e + 60) mX11_pairs [.ref x, .int p1] I J R K n x m) (fun r vl' st' tp' lw' sp' ap' sg' B' => ∀ I1 J1 R1 K1 n1, MIv G I1 J1 R1 K1 n1 m t c tl tt vl st tp lw sp ap sg B → YL G (e + 60) mX12_pairs [.ref m, .int p1] I1 J1 R1 K1 n1 m tl tt r vl' st' tp' lw' sp' ap' sg' B') B := by
  by_cases h : 0 < vl.1 ∧ ∃ k : Nat, k < 2 ∧ p1 = nI k
  · obtain ⟨hv, k, hk, rfl⟩ := h
    exact ⟨_, _, _, _, _, _, _, _, _, by omega, x_pairs_y C hv hk, fun I1 J1 R1 K1 n1 M1 => y_pairs_y M1 hv hk⟩
  · skip
    exact ⟨_, _, _, _, _, _, _, _, _, by omega, x_pairs_n C h, fun I1 J1 R1 K1 n1 M1 => y_pairs_n M1 h⟩
theorem b_seen {p : Int32} {p2 : Int32} {p3 : Int32} (C : CIv G I R K n x m v w q nx lo M lk sq vl st tp lw sp ap sg B) (hB : B + 40 < 100000) (h3 : p3 = 0 ∨ p3 = 1) : BB (XC G (e + 60) mX11_seen [.ref x, .int p, .int p2, .int p3] I J R K n x m) (fun r vl' st' tp' lw' sp' ap' sg' B' => ∀ I1 J1 R1 K1 n1, MIv G I1 J1 R1 K1 n1 m t c tl tt vl st tp lw sp ap sg B → YC G (e + 60) mX12_seen [.ref m, .int p, .int p2, .int p3] I1 J1 R1 K1 n1 m t c tl tt r vl' st' tp' lw' sp' ap' sg' B') B := by
  obtain ⟨b, hb, rfl⟩ : ∃ b : Nat, b ≤ 1 ∧ p3 = nI b := by
    rcases h3 with h | h
    · exact ⟨0, by omega, h⟩
    · exact ⟨1, by omega, h⟩
  by_cases h : isSeen vl sg p p2
  · obtain ⟨k, j, hk, hj, hs, rfl, rfl⟩ := h
    exact ⟨_, _, _, _, _, _, _, _, _, by omega, x_seen_y C hk hj hs hb, fun I1 J1 R1 K1 n1 M1 => y_seen_y M1 hk hj hs hb⟩
  · skip
    exact ⟨_, _, _, _, _, _, _, _, _, by omega, x_seen_n C h, fun I1 J1 R1 K1 n1 M1 => y_seen_n M1 h⟩
theorem b_weights {p : Int32} {p2 : Int32} (C : CIv G I R K n x m v w q nx lo M lk sq vl st tp lw sp ap sg B) (hB : B + 40 < 100000) : BB (XC G (e + 60) mX11_weights [.ref x, .int p, .int p2] I J R K n x m) (fun r vl' st' tp' lw' sp' ap' sg' B' => ∀ I1 J1 R1 K1 n1, MIv G I1 J1 R1 K1 n1 m t c tl tt vl st tp lw sp ap sg B → YL G (e + 60) mX12_weights [.ref m, .int p, .int p2] I1 J1 R1 K1 n1 m tl tt r vl' st' tp' lw' sp' ap' sg' B') B := by
  have h6 := C.okv.1.1
  have h9 := C.okv.2.1
  rcases bad_or (N := vl.2.2.1) (by omega) p with h | ⟨f, hf, rfl⟩
  · skip
    exact ⟨_, _, _, _, _, _, _, _, _, by omega, x_weights_n C h, fun I1 J1 R1 K1 n1 M1 => y_weights_n M1 h⟩
  · skip
    exact ⟨_, _, _, _, _, _, _, _, _, by omega, x_weights_y C hf, fun I1 J1 R1 K1 n1 M1 => y_weights_y M1 hf⟩
theorem b_ask {p : Int32} (C : CIv G I R K n x m v w q nx lo M lk sq vl st tp lw sp ap sg B) (hB : B + 40 < 100000) : BB (XC G (e + 60) mX11_ask [.ref x, .int p] I J R K n x m) (fun r vl' st' tp' lw' sp' ap' sg' B' => ∀ I1 J1 R1 K1 n1, MIv G I1 J1 R1 K1 n1 m t c tl tt vl st tp lw sp ap sg B → YL G (e + 60) mX12_ask [.ref m, .int p] I1 J1 R1 K1 n1 m tl tt r vl' st' tp' lw' sp' ap' sg' B') B := by
  have h6 := C.okv.1.1
  have h9 := C.okv.2.1
  rcases bad_or (N := vl.2.2.1) (by omega) p with h | ⟨f, hf, rfl⟩
  · skip
    exact ⟨_, _, _, _, _, _, _, _, _, by omega, x_ask_n C h, fun I1 J1 R1 K1 n1 M1 => y_ask_n M1 h⟩
  · skip
    exact ⟨_, _, _, _, _, _, _, _, _, by omega, x_ask_y C hf, fun I1 J1 R1 K1 n1 M1 => y_ask_y M1 hf⟩
theorem b_ring  (C : CIv G I R K n x m v w q nx lo M lk sq vl st tp lw sp ap sg B) (hB : B + 40 < 100000) : BB (XC G (e + 60) mX11_ring [.ref x] I J R K n x m) (fun r vl' st' tp' lw' sp' ap' sg' B' => ∀ I1 J1 R1 K1 n1, MIv G I1 J1 R1 K1 n1 m t c tl tt vl st tp lw sp ap sg B → YC G (e + 60) mX12_ring [.ref m] I1 J1 R1 K1 n1 m t c tl tt r vl' st' tp' lw' sp' ap' sg' B') B := by
  exact ⟨_, _, _, _, _, _, _, _, _, by omega, x_ring C, fun I1 J1 R1 K1 n1 M1 => y_ring M1⟩
theorem b_chain {p : Int32} {p2 : Int32} (C : CIv G I R K n x m v w q nx lo M lk sq vl st tp lw sp ap sg B) (hB : B + 40 < 100000) : BB (XC G (e + 60) mX11_chain [.ref x, .int p, .int p2] I J R K n x m) (fun r vl' st' tp' lw' sp' ap' sg' B' => ∀ I1 J1 R1 K1 n1, MIv G I1 J1 R1 K1 n1 m t c tl tt vl st tp lw sp ap sg B → YC G (e + 60) mX12_chain [.ref m, .int p, .int p2] I1 J1 R1 K1 n1 m t c tl tt r vl' st' tp' lw' sp' ap' sg' B') B := by
  have h6 := C.okv.1.1
  have h9 := C.okv.2.1
  rcases bad_or (N := vl.1) (by omega) p with h | ⟨f, hf, rfl⟩
  · skip
    exact ⟨_, _, _, _, _, _, _, _, _, by omega, x_chain_n C (Or.inl h), fun I1 J1 R1 K1 n1 M1 => y_chain_n M1 (Or.inl h)⟩
  rcases bad_or (N := vl.1) (by omega) p2 with h | ⟨k, hk, rfl⟩
  · skip
    exact ⟨_, _, _, _, _, _, _, _, _, by omega, x_chain_n C (Or.inr h), fun I1 J1 R1 K1 n1 M1 => y_chain_n M1 (Or.inr h)⟩
  exact ⟨_, _, _, _, _, _, _, _, _, by omega, x_chain_y C hf hk, fun I1 J1 R1 K1 n1 M1 => y_chain_y M1 hf hk⟩
theorem b_score {p : Int32} {p2 : Int32} (C : CIv G I R K n x m v w q nx lo M lk sq vl st tp lw sp ap sg B) (hB : B + 40 < 100000) : BB (XC G (e + 60) mX11_score [.ref x, .int p, .int p2] I J R K n x m) (fun r vl' st' tp' lw' sp' ap' sg' B' => ∀ I1 J1 R1 K1 n1, MIv G I1 J1 R1 K1 n1 m t c tl tt vl st tp lw sp ap sg B → YC G (e + 60) mX12_score [.ref m, .int p, .int p2] I1 J1 R1 K1 n1 m t c tl tt r vl' st' tp' lw' sp' ap' sg' B') B := by
  have h6 := C.okv.1.1
  have h9 := C.okv.2.1
  rcases bad_or (N := vl.1) (by omega) p with h | ⟨f, hf, rfl⟩
  · skip
    exact ⟨_, _, _, _, _, _, _, _, _, by omega, x_score_n C (Or.inl h), fun I1 J1 R1 K1 n1 M1 => y_score_n M1 (Or.inl h)⟩
  rcases bad_or (N := 2) (by omega) p2 with h | ⟨k, hk, rfl⟩
  · skip
    exact ⟨_, _, _, _, _, _, _, _, _, by omega, x_score_n C (Or.inr h), fun I1 J1 R1 K1 n1 M1 => y_score_n M1 (Or.inr h)⟩
  exact ⟨_, _, _, _, _, _, _, _, _, by omega, x_score_y C hf hk, fun I1 J1 R1 K1 n1 M1 => y_score_y M1 hf hk⟩
theorem b_shares {p : Int32} {p2 : Int32} (C : CIv G I R K n x m v w q nx lo M lk sq vl st tp lw sp ap sg B) (hB : B + 40 < 100000) : BB (XC G (e + 60) mX11_shares [.ref x, .int p, .int p2] I J R K n x m) (fun r vl' st' tp' lw' sp' ap' sg' B' => ∀ I1 J1 R1 K1 n1, MIv G I1 J1 R1 K1 n1 m t c tl tt vl st tp lw sp ap sg B → YC G (e + 60) mX12_shares [.ref m, .int p, .int p2] I1 J1 R1 K1 n1 m t c tl tt r vl' st' tp' lw' sp' ap' sg' B') B := by
  have h6 := C.okv.1.1
  have h9 := C.okv.2.1
  rcases bad_or (N := vl.1) (by omega) p with h | ⟨f, hf, rfl⟩
  · skip
    exact ⟨_, _, _, _, _, _, _, _, _, by omega, x_shares_n C (Or.inl h), fun I1 J1 R1 K1 n1 M1 => y_shares_n M1 (Or.inl h)⟩
  rcases bad_or (N := 1000) (by omega) p2 with h | ⟨k, hk, rfl⟩
  · skip
    exact ⟨_, _, _, _, _, _, _, _, _, by omega, x_shares_n C (Or.inr h), fun I1 J1 R1 K1 n1 M1 => y_shares_n M1 (Or.inr h)⟩
  exact ⟨_, _, _, _, _, _, _, _, _, by omega, x_shares_y C hf hk, fun I1 J1 R1 K1 n1 M1 => y_shares_y M1 hf hk⟩
theorem b_game {p1 : Int32} {p2 : Int32} {p3 : Int32} {p4 : Int32} {p5 : Int32} (C : CIv G I R K n x m v w q nx lo M lk sq vl st tp lw sp ap sg B) (hB : B + 40 < 100000) : BB (XC G (e + 60) mX11_game [.ref x, .int p1, .int p2, .int p3, .int p4, .int p5] I J R K n x m) (fun r vl' st' tp' lw' sp' ap' sg' B' => ∀ I1 J1 R1 K1 n1, MIv G I1 J1 R1 K1 n1 m t c tl tt vl st tp lw sp ap sg B → YL G (e + 60) mX12_game [.ref m, .int p1, .int p2, .int p3, .int p4, .int p5] I1 J1 R1 K1 n1 m tl tt r vl' st' tp' lw' sp' ap' sg' B') B := by
  by_cases h : isGam vl.1 p1 p2 p3 p4 p5
  · obtain ⟨⟨f, g, hf, hg, hfg, rfl, rfl⟩, a, b, z, ha, hb, hz, rfl, rfl, rfl⟩ := h
    exact ⟨_, _, _, _, _, _, _, _, _, by omega, x_game_y C hf hg hfg ha hb hz (by omega), fun I1 J1 R1 K1 n1 M1 => y_game_y M1 hf hg hfg ha hb hz (by omega)⟩
  · skip
    exact ⟨_, _, _, _, _, _, _, _, _, by omega, x_game_n C h, fun I1 J1 R1 K1 n1 M1 => y_game_n M1 h⟩
theorem b_rests {p1 : Int32} {p2 : Int32} {p3 : Int32} (C : CIv G I R K n x m v w q nx lo M lk sq vl st tp lw sp ap sg B) (hB : B + 40 < 100000) : BB (XC G (e + 60) mX11_rests [.ref x, .int p1, .int p2, .int p3] I J R K n x m) (fun r vl' st' tp' lw' sp' ap' sg' B' => ∀ I1 J1 R1 K1 n1, MIv G I1 J1 R1 K1 n1 m t c tl tt vl st tp lw sp ap sg B → YL G (e + 60) mX12_rests [.ref m, .int p1, .int p2, .int p3] I1 J1 R1 K1 n1 m tl tt r vl' st' tp' lw' sp' ap' sg' B') B := by
  by_cases h : areTwo vl.1 p1 p2
  · obtain ⟨f, g, hf, hg, hfg, rfl, rfl⟩ := h
    exact ⟨_, _, _, _, _, _, _, _, _, by omega, x_rests_y C hf hg hfg (by omega), fun I1 J1 R1 K1 n1 M1 => y_rests_y M1 hf hg hfg (by omega)⟩
  · skip
    exact ⟨_, _, _, _, _, _, _, _, _, by omega, x_rests_n C h, fun I1 J1 R1 K1 n1 M1 => y_rests_n M1 h⟩
theorem b_odds {p1 : Int32} {p2 : Int32} (C : CIv G I R K n x m v w q nx lo M lk sq vl st tp lw sp ap sg B) (hB : B + 40 < 100000) : BB (XC G (e + 60) mX11_odds [.ref x, .int p1, .int p2] I J R K n x m) (fun r vl' st' tp' lw' sp' ap' sg' B' => ∀ I1 J1 R1 K1 n1, MIv G I1 J1 R1 K1 n1 m t c tl tt vl st tp lw sp ap sg B → YL G (e + 60) mX12_odds [.ref m, .int p1, .int p2] I1 J1 R1 K1 n1 m tl tt r vl' st' tp' lw' sp' ap' sg' B') B := by
  by_cases h : ∃ f c : Nat, f < vl.1 ∧ c < 101 ∧ p1 = nI f ∧ p2 = nI c
  · obtain ⟨f, k, hf, hk, rfl, rfl⟩ := h
    exact ⟨_, _, _, _, _, _, _, _, _, by omega, x_odds_y C hf hk (by omega), fun I1 J1 R1 K1 n1 M1 => y_odds_y M1 hf hk (by omega)⟩
  · skip
    exact ⟨_, _, _, _, _, _, _, _, _, by omega, x_odds_n C h, fun I1 J1 R1 K1 n1 M1 => y_odds_n M1 h⟩
theorem b_fades {p : Int32} (C : CIv G I R K n x m v w q nx lo M lk sq vl st tp lw sp ap sg B) (hB : B + 40 < 100000) : BB (XC G (e + 60) mX11_fades [.ref x, .int p] I J R K n x m) (fun r vl' st' tp' lw' sp' ap' sg' B' => ∀ I1 J1 R1 K1 n1, MIv G I1 J1 R1 K1 n1 m t c tl tt vl st tp lw sp ap sg B → YC G (e + 60) mX12_fades [.ref m, .int p] I1 J1 R1 K1 n1 m t c tl tt r vl' st' tp' lw' sp' ap' sg' B') B := by
  have h6 := C.okv.1.1
  have h9 := C.okv.2.1
  rcases bad_or (N := vl.1) (by omega) p with h | ⟨f, hf, rfl⟩
  · skip
    exact ⟨_, _, _, _, _, _, _, _, _, by omega, x_fades_n C h, fun I1 J1 R1 K1 n1 M1 => y_fades_n M1 h⟩
  · skip
    exact ⟨_, _, _, _, _, _, _, _, _, by omega, x_fades_y C hf, fun I1 J1 R1 K1 n1 M1 => y_fades_y M1 hf⟩
theorem b_all {p : Int32} (C : CIv G I R K n x m v w q nx lo M lk sq vl st tp lw sp ap sg B) (hB : B + 40 < 100000) : BB (XC G (e + 60) mX11_all [.ref x, .int p] I J R K n x m) (fun r vl' st' tp' lw' sp' ap' sg' B' => ∀ I1 J1 R1 K1 n1, MIv G I1 J1 R1 K1 n1 m t c tl tt vl st tp lw sp ap sg B → YC G (e + 60) mX12_all [.ref m, .int p] I1 J1 R1 K1 n1 m t c tl tt r vl' st' tp' lw' sp' ap' sg' B') B := by
  by_cases hv : 0 < vl.1
  case neg =>
    exact ⟨_, _, _, _, _, _, _, _, _, by omega, x_all_n C (Or.inl hv), fun I1 J1 R1 K1 n1 M1 => y_all_n M1 (Or.inl hv)⟩
  rcases bad_or (N := 13) (by omega) p with h | ⟨k, hk, rfl⟩
  · skip
    exact ⟨_, _, _, _, _, _, _, _, _, by omega, x_all_n C (Or.inr h), fun I1 J1 R1 K1 n1 M1 => y_all_n M1 (Or.inr h)⟩
  exact ⟨_, _, _, _, _, _, _, _, _, by omega, x_all_y C hv hk, fun I1 J1 R1 K1 n1 M1 => y_all_y M1 hv hk⟩
theorem b_image  (C : CIv G I R K n x m v w q nx lo M lk sq vl st tp lw sp ap sg B) (hB : B + 40 < 100000) : BB (XC G (e + 60) mX11_image [.ref x] I J R K n x m) (fun r vl' st' tp' lw' sp' ap' sg' B' => ∀ I1 J1 R1 K1 n1, MIv G I1 J1 R1 K1 n1 m t c tl tt vl st tp lw sp ap sg B → YC G (e + 60) mX12_image [.ref m] I1 J1 R1 K1 n1 m t c tl tt r vl' st' tp' lw' sp' ap' sg' B') B := by
  by_cases h : 0 < vl.1
  · skip
    exact ⟨_, _, _, _, _, _, _, _, _, by omega, x_image_y C h, fun I1 J1 R1 K1 n1 M1 => y_image_y M1 h⟩
  · skip
    exact ⟨_, _, _, _, _, _, _, _, _, by omega, x_image_n C h, fun I1 J1 R1 K1 n1 M1 => y_image_n M1 h⟩
theorem b_back  (C : CIv G I R K n x m v w q nx lo M lk sq vl st tp lw sp ap sg B) (hB : B + 40 < 100000) : BB (XC G (e + 60) mX11_back [.ref x] I J R K n x m) (fun r vl' st' tp' lw' sp' ap' sg' B' => ∀ I1 J1 R1 K1 n1, MIv G I1 J1 R1 K1 n1 m t c tl tt vl st tp lw sp ap sg B → YC G (e + 60) mX12_back [.ref m] I1 J1 R1 K1 n1 m t c tl tt r vl' st' tp' lw' sp' ap' sg' B') B := by
  obtain ⟨T, LG, hs, im⟩ := st
  cases im with
  | none =>
    exact ⟨_, _, _, _, _, _, _, _, _, by omega, x_back_n C, fun I1 J1 R1 K1 n1 M1 => y_back_n M1⟩
  | some y =>
    exact ⟨_, _, _, _, _, _, _, _, _, by omega, x_back_y C, fun I1 J1 R1 K1 n1 M1 => y_back_y M1⟩
theorem b_text {p : Int32} (C : CIv G I R K n x m v w q nx lo M lk sq vl st tp lw sp ap sg B) (hB : B + 40 < 100000) : ∃ r vl' st' tp' lw' sp' ap' sg' B' tl' tt', B' ≤ B + 30 ∧ XT G (e + 60) [.ref x, .int p] I J R K n x m r vl' st' tp' lw' sp' ap' sg' B' ∧ ∀ I1 J1 R1 K1 n1, MIv G I1 J1 R1 K1 n1 m t c tl tt vl st tp lw sp ap sg B → YL G (e + 60) mX12_text [.ref m, .int p] I1 J1 R1 K1 n1 m tl' tt' r vl' st' tp' lw' sp' ap' sg' B' := by
  rcases bad_or (N := 3) (by omega) p with h | ⟨k, hk, rfl⟩
  · exact ⟨_, _, _, _, _, _, _, _, _, _, _, by omega, x_text_b C h, fun I1 J1 R1 K1 n1 M1 => y_text_b M1 h⟩
  by_cases hr : (k = 1 ∧ lw.1 = 4) ∨ (k = 2 ∧ sp.1 = 4)
  · exact ⟨_, _, _, _, _, _, _, _, _, _, _, by omega, x_text_r C hk hr, fun I1 J1 R1 K1 n1 M1 => y_text_r M1 hk hr⟩
  have hc : k = 0 ∨ k = 1 ∨ k = 2 := by omega
  rcases hc with rfl | rfl | rfl
  · cases hv : (villP tp.2 tp.1).2 with
    | none => exact ⟨_, _, _, _, _, _, _, _, _, _, _, by omega, x_text0_n C hv, fun I1 J1 R1 K1 n1 M1 => y_text0_n M1 hv⟩
    | some vl2 => exact ⟨_, _, _, _, _, _, _, _, _, _, _, by omega, x_text0_y C hv, fun I1 J1 R1 K1 n1 M1 => y_text0_y M1 hv⟩
  · have hl : lw.1 ≠ 4 := fun h => hr (Or.inl ⟨rfl, h⟩)
    have t1 := C.tp.1
    have pl := plaw_le (tx := tp.2) (ln := tp.1)
    cases hv : (plaw tp.2 tp.1).2 with
    | none => exact ⟨_, _, _, _, _, _, _, _, _, _, _, by omega, x_text1_n C hl hv, fun I1 J1 R1 K1 n1 M1 => y_text1_n M1 hl hv (by omega)⟩
    | some cc => exact ⟨_, _, _, _, _, _, _, _, _, _, _, by omega, x_text1_y C hl hv, fun I1 J1 R1 K1 n1 M1 => y_text1_y M1 hl hv⟩
  · have hl : sp.1 ≠ 4 := fun h => hr (Or.inr ⟨rfl, h⟩)
    cases hv : (spR tp).2 with
    | none => exact ⟨_, _, _, _, _, _, _, _, _, _, _, by omega, x_text2_n C hl hv, fun I1 J1 R1 K1 n1 M1 => y_text2_n M1 hl hv⟩
    | some z => exact ⟨_, _, _, _, _, _, _, _, _, _, _, by omega, x_text2_y C hl hv, fun I1 J1 R1 K1 n1 M1 => y_text2_y M1 hl hv⟩
end
