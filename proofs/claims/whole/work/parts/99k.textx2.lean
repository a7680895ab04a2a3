/-! THE FACE: text: the class's states behind it -/
theorem Law_R {G : zG} {R R1 : Nat → Nat → Option Nat} {K : Nat → Nat × Nat} {n a c : Nat} (S : hLaw G R K n a c) (h : R1 a = R a) : hLaw G R1 K n a c := by
  unfold hLaw at S ⊢
  rw [h]
  exact S
theorem Spr_R {G : zG} {R R1 : Nat → Nat → Option Nat} {K : Nat → Nat × Nat} {n a : Nat} (S : hSpr G R K n a) (h : R1 a = R a) : hSpr G R1 K n a := by
  unfold hSpr at S ⊢
  rw [h]
  exact S
/-- the class answers r, and its state is then so; cells may be new -/
def XT (G : zG) (D : Nat) (args : List Value) (I : Nat → Nat → Int32) (J : Nat → Nat → Int64) (R : Nat → Nat → Option Nat) (K : Nat → Nat × Nat) (n x m : Nat) (r : Int32) (vl : Vt) (st : Stt) (tp : Tpt) (lw : Lwt) (sp : Spt) (ap : Nat) (sg : Sgt) (B : Nat) : Prop :=
  ∀ Q : Option Value → zH → Prop, (∀ I' J' R' K' n' v' w' q' nx' lo' M' lk' sq', CIv G I' R' K' n' x m v' w' q' nx' lo' M' lk' sq' vl st tp lw sp ap sg B → n ≤ n' → (∀ b, b < n → K' b = K b) → (∀ b, m ≤ b → b < m + 21 → I' b = I b ∧ J' b = J b ∧ R' b = R b) → Q (some (.int r)) (I', J', R', K', n')) → zC G D mX11_text 4 300 args (I, J, R, K, n) Q
def lwK (lw : Lwt) (cc : List Int32) : Lwt := (lw.1 + 1, (fun k => if k = lw.1 then cc else lw.2.1 k), lw.2.2)
def spK (sp : Spt) (z : Nat × (Nat → Int32)) : Spt := (sp.1 + 1, (fun k => if k = sp.1 then z.1 else sp.2.1 k), (fun k => if k = sp.1 then z.2 else sp.2.2 k))
def stV (vl : Vt) (st : Stt) : Stt := (beginT vl, st.2.1, [], none)
section
variable {G : zG} {d : Nat} {I : Nat → Nat → Int32} {J : Nat → Nat → Int64} {R : Nat → Nat → Option Nat} {K : Nat → Nat × Nat} {n : Nat} {x m v w q nx lo M t c : Nat} {lk sq : Nat → Nat} {tl : Nat → Nat} {tt : Nat → Nat → Nat} {vl vl' : Vt} {st : Stt} {tp : Tpt} {lw : Lwt} {sp : Spt} {ap : Nat} {sg : Sgt} {B B' : Nat} {p p2 : Int32} {T : Nat → Nat} {Q : Option Value → zH → Prop}
theorem CIv.gz (C : CIv G I R K n x m v w q nx lo M lk sq vl st tp lw sp ap sg B) : G.1 ≤ n := by
  have := (X_0 C.X).1
  have := (X_0 C.X).2.1
  omega
theorem CIv.vn (C : CIv G I R K n x m v w q nx lo M lk sq vl st tp lw sp ap sg B) : x + 112 ≤ n ∧ v < n ∧ w < n ∧ q < n := by
  have g := C.gm
  have := g.1
  have := g.2.1
  have := g.2.2.2.2.2.1
  have := C.vw
  omega
/-- the class, another village -/
theorem c_settle (C : CIv G I R K n x m v w q nx lo M lk sq vl st tp lw sp ap sg B) (cv : cV I w vl') (W : okVl vl') (hQ : ∀ I' R' lk' , CIv G I' R' K n x m w v q nx 0 0 lk' sq vl' (stV vl' st) tp lw sp ap (0, sg.2) B → (∀ b, m ≤ b → b < m + 21 → I' b = I b ∧ R' b = R b) → Q (some (.int (nI vl'.1))) (I', J, R', K, n)) : zC G (d + 3) mX11_settle 0 0 [.ref x] (I, J, R, K, n) Q := by
  have g := C.gm
  have g1 := g.1
  have g5 := g.2.2.2.2.1
  have vw := C.vw
  have hB : B < 100000 := C.oks.1.2.2.2.2.2.2.2.2.2
  obtain ⟨R1, q1⟩ : ∃ R1, R1 = zU R (x + 3) 0 (some w) := ⟨_, rfl⟩
  obtain ⟨R2, q2⟩ : ∃ R2, R2 = zU R1 x 11 (some v) := ⟨_, rfl⟩
  have S1 : hX G R1 K n x w w q := X_vw C.X (X_23 C.X) (X_23 C.X) (fun b k h1 h2 => by rw [q1, zU_ne h1]) (by rw [q1, zU_self]) (by rw [q1, zU_off (by omega)]; exact X_22 C.X) (by omega) (by omega) (by omega) (by omega) (by omega) (by omega)
  have hR : ∀ b, b ≠ x → b ≠ x + 3 → R2 b = R b := fun b b1 b2 => by rw [q2, zU_off b1, q1, zU_off b2]
  have S2 : hX G R2 K n x w v q := X_vw C.X (X_23 C.X) (Set_2 (X_26 C.X)) (fun b k h1 h2 => by rw [q2, zU_ne h2, q1, zU_ne h1]) (by rw [q2, zU_off (by omega), q1, zU_self]) (by rw [q2, zU_self]) (by omega) (by omega) (by omega) (by omega) (by omega) (by omega)
  refine zC.of (by decide) (Nat.le_of_ble_eq_true rfl) ?_
  refine wX11_settle_0 x v w q C.X ?_
  rintro _ rfl
  rw [← q1]
  refine ⟨w, w, q, S1, ?_⟩
  rintro _ rfl
  rw [← q2]
  refine ⟨w, v, q, S2, ?_⟩
  refine c_begin (X_5 S2) (by unfold Geo; omega) cv W ?_
  intro I1 cs1 f1
  refine ⟨_, rfl, rfl, ?_⟩
  refine c_hclear (hs := st.2.2.1) (nx := nx) (X_9 S2) (C.hr.same (f1 _ (by omega)) (fun j hj hne => f1 _ (by omega))) ?_
  intro I2 hr2 e4 f2
  refine ⟨_, rfl, rfl, ?_⟩
  intro I3 q3
  have fr : ∀ b, ¬ (x + 12 ≤ b ∧ b < x + 19) → b ≠ x + 28 → b ≠ x + 82 → I3 b = I b := fun b h1 h2 h3 => by rw [q3, zU_off h3, f2 b h2, f1 b h1]
  have cv3 : cV I3 w vl' := cv.same (fun b b1 b2 => fr b (by omega) (by omega) (by omega))
  rw [cv3.1.1]
  refine hQ I3 R2 lk ⟨S2, by omega, g, C.tp.same (by rw [fr _ (by omega) (by omega) (by omega)]) (fr _ (by omega) (by omega) (by omega)), cv3, W, ?_, ⟨okT.begin_ W hB, fun j hj => absurd hj (Nat.not_lt_zero j), fun y hy => by injection hy, ?_, fun j hj => absurd hj (Nat.not_lt_zero j), fun y hy => by injection hy⟩, ?_, ?_, ?_, ?_, ?_, ?_, ?_, ?_⟩ (fun b b1 b2 => ⟨fr b (by omega) (by omega) (by omega), hR b (by omega) (by omega)⟩)
  · exact cs1.same (fun b b1 b2 => by rw [q3, zU_off (by omega), f2 b (by omega)])
  · show beginT vl' 49 ≤ 999
    have e : beginT vl' 49 = 0 := by
      unfold beginT
      have := W.2.1
      rw [if_neg (by omega), if_neg (by omega), if_neg (by omega)]
    omega
  · exact hr2.same (by rw [q3, zU_off (by omega)]) (fun j hj hne => by rw [q3, zU_off (by omega)])
  · have e : beginT vl' 49 = 0 := by
      unfold beginT
      have := W.2.1
      rw [if_neg (by omega), if_neg (by omega), if_neg (by omega)]
    refine ⟨trivial, fun j hj => absurd hj (Nat.not_lt_zero j), ?_, ?_, ?_⟩
    · show 0 ≤ _; omega
    · show beginT vl' 49 ≤ 0; omega
    · show 0 ≤ _; omega
  · intro e w' hw h1 h2
    have e0 : beginT vl' 49 = 0 := by
      unfold beginT
      have := W.2.1
      rw [if_neg (by omega), if_neg (by omega), if_neg (by omega)]
    replace h2 : e < beginT vl' 49 := h2
    omega
  · exact Or.inl ⟨rfl, by rw [q3, zU_off (by omega)]; exact e4⟩
  · obtain ⟨c1, c2, c3, c4⟩ := C.cl
    refine ⟨c1, by rw [fr x (by omega) (by omega) (by omega)]; exact c2, fun k hk => ?_, ?_⟩
    · have := g.2.2.1 k hk
      obtain ⟨a1, a2, a3, a4⟩ := c3 k hk
      refine ⟨by rw [hR _ (by omega) (by omega)]; exact a1, Law_R a2 (hR _ (by omega) (by omega)), a3, fun j hj => by rw [fr _ (by omega) (by omega) (by omega)]; exact a4 j hj⟩
    · rw [fr x (by omega) (by omega) (by omega), show R2 (x + 3) 1 = R (x + 3) 1 by rw [q2, zU_off (by omega), q1, zU_ne (by omega)]]
      exact c4
  · obtain ⟨c1, c2, c3⟩ := C.cp
    refine ⟨c1, by rw [fr x (by omega) (by omega) (by omega)]; exact c2, fun k hk => ?_⟩
    have := g.2.2.2.1 k hk
    obtain ⟨a1, a2, a3⟩ := c3 k hk
    exact ⟨by rw [hR _ (by omega) (by omega)]; exact a1, Spr_R a2 (hR _ (by omega) (by omega)), a3.same (fun b b1 b2 => fr b (by omega) (by omega) (by omega))⟩
  · exact ⟨Nat.zero_le _, by rw [q3, zU_self]; rfl, fun i hi => absurd hi (Nat.not_lt_zero i)⟩
  · rw [fr x (by omega) (by omega) (by omega)]
    exact C.ap
/-- the class, one law more -/
theorem CIv.lawK {I' : Nat → Nat → Int32} {R' : Nat → Nat → Option Nat} {K' : Nat → Nat × Nat} {cc : List Int32} (C : CIv G I R K n x m v w q nx lo M lk sq vl st tp lw sp ap sg B) (h4 : lw.1 < 4) (hc : cc.length ≤ 240) (f1 : ∀ b j, b < n → ¬ (b = x ∧ j = 13) → I' b j = I b j) (f2 : I' x 13 = nI (lw.1 + 1)) (f3 : ∀ j, j < cc.length → I' (n + 1) j = cc.getD j 0) (f5 : ∀ b j, b < n → ¬ (b = x + 99 ∧ j = lw.1) → R' b j = R b j) (f6 : R' (x + 99) lw.1 = some n) (f7 : R' n 0 = some (n + 1)) (f8 : R' n 1 = some (n + 2)) (f9 : ∀ b, b < n → K' b = K b) (f10 : K' n = (2, 0)) (f11 : K' (n + 1) = (32, cc.length)) (f12 : K' (n + 2) = (32, 32)) : CIv G I' R' K' (n + 3) x m v w q nx lo M (fun k => if k = lw.1 then n else lk k) sq vl st tp (lwK lw cc) sp ap sg B := by
  have g := C.gm
  have g1 := g.1
  have g2 := g.2.1
  have g5 := g.2.2.2.2.1
  have g6 := g.2.2.2.2.2.1
  have vw := C.vw
  have vn := C.vn
  have gz := C.gz
  have hnx := C.hr.2.2.1
  have fr : ∀ b, b < n → b ≠ x → I' b = I b := fun b h1 h2 => funext fun j => f1 b j h1 (by omega)
  have hR : ∀ b, b < n → b ≠ x + 99 → R' b = R b := fun b h1 h2 => funext fun j => f5 b j h1 (by omega)
  have lkl : ∀ k, k < lw.1 → (if k = lw.1 then n else lk k) = lk k := fun k hk => if_neg (by omega)
  have lkn : (if lw.1 = lw.1 then n else lk lw.1) = n := if_pos rfl
  refine ⟨X_mono (y := x + 99) C.X f9 hR (by omega) (by omega) (by omega) (by omega) (by omega) (by omega) (by omega) (by omega) (by omega) (by omega) (by omega) (by omega) (by omega) (by omega) (by omega) (by omega) (by omega) (by omega) (by omega), vw, ⟨g1, by omega, fun k hk => ?_, fun k hk => ?_, g5, by omega, g.2.2.2.2.2.2.1, fun i j hi hj => ?_, fun j hj => ?_, fun i j hi hj hne => ?_⟩, C.tp.same (by rw [fr _ (by omega) (by omega)]) (fr _ (by omega) (by omega)), C.cv.same (fun b b1 b2 => fr b (by omega) (by omega)), C.okv, C.cs.same (fun b b1 b2 => fr b (by omega) (by omega)), C.oks, C.hr.same (fr _ (by omega) (by omega)) (fun j hj hne => fr _ (by omega) (by omega)), C.hd, C.lg.same (fun b b1 b2 => fr b (by omega) (by omega)), C.im.same (by rw [fr _ (by omega) (by omega)]) (fun b b1 b2 => fr b (by omega) (by omega)), ?_, ?_, C.cg.same (fun b b1 b2 => fr b (by omega) (by omega)), ⟨by rw [f1 x 16 (by omega) (by omega)]; exact C.ap.1, C.ap.2⟩⟩
  · replace hk : k < lw.1 + 1 := hk
    by_cases e : k = lw.1
    · subst e
      show m + 21 ≤ (if lw.1 = lw.1 then n else lk lw.1) ∧ (if lw.1 = lw.1 then n else lk lw.1) + 3 ≤ n + 3
      rw [lkn]
      omega
    · show m + 21 ≤ (if k = lw.1 then n else lk k) ∧ (if k = lw.1 then n else lk k) + 3 ≤ n + 3
      rw [lkl k (by omega)]
      have := g.2.2.1 k (by omega)
      omega
  · have := g.2.2.2.1 k hk
    exact ⟨this.1, by omega⟩
  · replace hj : j < lw.1 + 1 := hj
    show sq i + 4 ≤ (if j = lw.1 then n else lk j) ∨ (if j = lw.1 then n else lk j) + 3 ≤ sq i
    by_cases e : j = lw.1
    · subst e
      rw [lkn]
      have := g.2.2.2.1 i hi
      omega
    · rw [lkl j (by omega)]
      exact g.2.2.2.2.2.2.2.1 i j hi (by omega)
  · replace hj : j < lw.1 + 1 := hj
    show q + 4 ≤ (if j = lw.1 then n else lk j) ∨ (if j = lw.1 then n else lk j) + 3 ≤ q
    by_cases e : j = lw.1
    · subst e
      rw [lkn]
      omega
    · rw [lkl j (by omega)]
      exact g.2.2.2.2.2.2.2.2.1 j (by omega)
  · replace hi : i < lw.1 + 1 := hi
    replace hj : j < lw.1 + 1 := hj
    show (if i = lw.1 then n else lk i) + 3 ≤ (if j = lw.1 then n else lk j) ∨ (if j = lw.1 then n else lk j) + 3 ≤ (if i = lw.1 then n else lk i)
    by_cases ei : i = lw.1
    · have := g.2.2.1 j (by omega)
      rw [if_pos ei, lkl j (by omega)]
      omega
    · by_cases ej : j = lw.1
      · have := g.2.2.1 i (by omega)
        rw [if_pos ej, lkl i (by omega)]
        omega
      · rw [lkl i (by omega), lkl j (by omega)]
        exact g.2.2.2.2.2.2.2.2.2 i j (by omega) (by omega) hne
  · obtain ⟨c1, c2, c3, c4⟩ := C.cl
    refine ⟨by show lw.1 + 1 ≤ 4; omega, f2, fun k hk => ?_, ?_⟩
    · replace hk : k < lw.1 + 1 := hk
      show R' (x + 99) k = some (if k = lw.1 then n else lk k) ∧ hLaw G R' K' (n + 3) (if k = lw.1 then n else lk k) (if k = lw.1 then cc else lw.2.1 k).length ∧ (if k = lw.1 then cc else lw.2.1 k).length ≤ 240 ∧ ∀ j, j < (if k = lw.1 then cc else lw.2.1 k).length → I' ((if k = lw.1 then n else lk k) + 1) j = (if k = lw.1 then cc else lw.2.1 k).getD j 0
      by_cases e : k = lw.1
      · subst e
        rw [lkn, if_pos rfl]
        exact ⟨f6, ⟨⟨gz, by omega, by rw [f10]⟩, f7, ⟨by omega, by omega, f11⟩, f8, ⟨by omega, by omega, f12⟩⟩, hc, f3⟩
      · rw [lkl k (by omega), if_neg e]
        have := g.2.2.1 k (by omega)
        obtain ⟨a1, a2, a3, a4⟩ := c3 k (by omega)
        refine ⟨by rw [f5 _ _ (by omega) (by omega)]; exact a1, Law_mono (y := x + 99) a2 f9 hR (by omega) (by omega), a3, fun j hj => by rw [fr _ (by omega) (by omega)]; exact a4 j hj⟩
    · show (lw.2.2 = 0 ∧ I' x 15 = -1 ∧ R' (x + 3) 1 = none) ∨ (∃ k, k < lw.1 + 1 ∧ lw.2.2 = k + 1 ∧ I' x 15 = nI k ∧ R' (x + 3) 1 = some (if k = lw.1 then n else lk k))
      rw [f1 x 15 (by omega) (by omega), hR (x + 3) (by omega) (by omega)]
      rcases c4 with h | ⟨k, k1, k2, k3, k4⟩
      · exact Or.inl h
      · exact Or.inr ⟨k, by omega, k2, k3, by rw [lkl k k1]; exact k4⟩
  · obtain ⟨c1, c2, c3⟩ := C.cp
    refine ⟨c1, by rw [f1 x 14 (by omega) (by omega)]; exact c2, fun k hk => ?_⟩
    have := g.2.2.2.1 k hk
    obtain ⟨a1, a2, a3⟩ := c3 k hk
    exact ⟨by rw [hR _ (by omega) (by omega)]; exact a1, Spr_mono (y := x + 99) a2 f9 hR (by omega) (by omega), a3.same (fun b b1 b2 => fr b (by omega) (by omega))⟩
/-- the class, one spring more -/
theorem CIv.sprK {I' : Nat → Nat → Int32} {R' : Nat → Nat → Option Nat} {K' : Nat → Nat × Nat} {z : Nat × (Nat → Int32)} (C : CIv G I R K n x m v w q nx lo M lk sq vl st tp lw sp ap sg B) (h4 : sp.1 < 4) (hz : SS I q z.1 z.2) (f1 : ∀ b j, b < n → ¬ (b = x ∧ j = 14) → I' b j = I b j) (f2 : I' x 14 = nI (sp.1 + 1)) (f5 : ∀ b j, b < n → ¬ (b = x + 100 ∧ j = sp.1) → ¬ (b = x ∧ j = 12) → R' b j = R b j) (f6 : R' (x + 100) sp.1 = some q) (f7 : R' x 12 = some n) (f9 : ∀ b, b < n → K' b = K b) (f10 : hSpr G R' K' (n + 4) n) : CIv G I' R' K' (n + 4) x m v w n nx lo M lk (fun k => if k = sp.1 then q else sq k) vl st tp lw (spK sp z) ap sg B := by
  have g := C.gm
  have g1 := g.1
  have g2 := g.2.1
  have g5 := g.2.2.2.2.1
  have g6 := g.2.2.2.2.2.1
  have vw := C.vw
  have vn := C.vn
  have hnx := C.hr.2.2.1
  have fr : ∀ b, b < n → b ≠ x → I' b = I b := fun b h1 h2 => funext fun j => f1 b j h1 (by omega)
  have hR : ∀ b, b < n → b ≠ x + 100 → b ≠ x → R' b = R b := fun b h1 h2 h3 => funext fun j => f5 b j h1 (by omega) (by omega)
  have sql : ∀ k, k < sp.1 → (if k = sp.1 then q else sq k) = sq k := fun k hk => if_neg (by omega)
  have X' : hX G R' K' (n + 4) x v w n := by
    have X1 : hX G (zU R' x 12 (some q)) K' (n + 4) x v w q := X_mono (y := x + 100) C.X f9 (fun b hb hne => by
      by_cases e : b = x
      · subst e
        funext j
        by_cases ej : j = 12
        · subst ej; rw [zU_self]; exact (X_24 C.X).symm
        · rw [zU_ne (by omega), f5 _ _ (by omega) (by omega) (by omega)]
      · rw [zU_off e]; exact hR b hb hne e) (by omega) (by omega) (by omega) (by omega) (by omega) (by omega) (by omega) (by omega) (by omega) (by omega) (by omega) (by omega) (by omega) (by omega) (by omega) (by omega) (by omega) (by omega) (by omega)
    exact X_q0 X1 f10 (fun b k h => by rw [zU_ne h]) f7 (by omega) (by omega)
  refine ⟨X', vw, ⟨g1, by omega, fun k hk => ?_, fun k hk => ?_, Or.inr g2, by omega, fun k hk => ?_, fun i j hi hj => ?_, fun j hj => ?_, g.2.2.2.2.2.2.2.2.2⟩, C.tp.same (by rw [fr _ (by omega) (by omega)]) (fr _ (by omega) (by omega)), C.cv.same (fun b b1 b2 => fr b (by omega) (by omega)), C.okv, C.cs.same (fun b b1 b2 => fr b (by omega) (by omega)), C.oks, C.hr.same (fr _ (by omega) (by omega)) (fun j hj hne => fr _ (by omega) (by omega)), C.hd, C.lg.same (fun b b1 b2 => fr b (by omega) (by omega)), C.im.same (by rw [fr _ (by omega) (by omega)]) (fun b b1 b2 => fr b (by omega) (by omega)), ?_, ?_, C.cg.same (fun b b1 b2 => fr b (by omega) (by omega)), ⟨by rw [f1 x 16 (by omega) (by omega)]; exact C.ap.1, C.ap.2⟩⟩
  · have := g.2.2.1 k hk
    exact ⟨this.1, by omega⟩
  · replace hk : k < sp.1 + 1 := hk
    show ((if k = sp.1 then q else sq k) = x + 108 ∨ m + 21 ≤ (if k = sp.1 then q else sq k)) ∧ (if k = sp.1 then q else sq k) + 4 ≤ n + 4
    by_cases e : k = sp.1
    · rw [if_pos e]
      exact ⟨g5, by omega⟩
    · rw [sql k (by omega)]
      have := g.2.2.2.1 k (by omega)
      exact ⟨this.1, by omega⟩
  · replace hk : k < sp.1 + 1 := hk
    show (if k = sp.1 then q else sq k) + 4 ≤ n ∨ n + 4 ≤ (if k = sp.1 then q else sq k)
    by_cases e : k = sp.1
    · rw [if_pos e]; omega
    · rw [sql k (by omega)]
      have := g.2.2.2.1 k (by omega)
      omega
  · replace hi : i < sp.1 + 1 := hi
    show (if i = sp.1 then q else sq i) + 4 ≤ lk j ∨ lk j + 3 ≤ (if i = sp.1 then q else sq i)
    by_cases e : i = sp.1
    · rw [if_pos e]
      exact g.2.2.2.2.2.2.2.2.1 j hj
    · rw [sql i (by omega)]
      exact g.2.2.2.2.2.2.2.1 i j (by omega) hj
  · have := g.2.2.1 j hj
    omega
  · obtain ⟨c1, c2, c3, c4⟩ := C.cl
    refine ⟨c1, by rw [f1 x 13 (by omega) (by omega)]; exact c2, fun k hk => ?_, by rw [f1 x 15 (by omega) (by omega), hR (x + 3) (by omega) (by omega) (by omega)]; exact c4⟩
    have := g.2.2.1 k hk
    obtain ⟨a1, a2, a3, a4⟩ := c3 k hk
    have a2' : hLaw G R K' (n + 4) (lk k) (lw.2.1 k).length := Law_mono (y := x + 100) a2 f9 (fun _ _ _ => rfl) (by omega) (by omega)
    exact ⟨by rw [hR _ (by omega) (by omega) (by omega)]; exact a1, Law_R a2' (hR _ (by omega) (by omega) (by omega)), a3, fun j hj => by rw [fr _ (by omega) (by omega)]; exact a4 j hj⟩
  · obtain ⟨c1, c2, c3⟩ := C.cp
    refine ⟨by show sp.1 + 1 ≤ 4; omega, f2, fun k hk => ?_⟩
    replace hk : k < sp.1 + 1 := hk
    show R' (x + 100) k = some (if k = sp.1 then q else sq k) ∧ hSpr G R' K' (n + 4) (if k = sp.1 then q else sq k) ∧ SS I' (if k = sp.1 then q else sq k) (if k = sp.1 then z.1 else sp.2.1 k) (if k = sp.1 then z.2 else sp.2.2 k)
    by_cases e : k = sp.1
    · subst e
      rw [if_pos rfl, if_pos rfl, if_pos rfl]
      have s' : hSpr G R K' (n + 4) q := Spr_mono (y := x + 100) (X_25 C.X) f9 (fun _ _ _ => rfl) (by omega) (by omega)
      exact ⟨f6, Spr_R s' (hR _ (by omega) (by omega) (by omega)), hz.same (fun b b1 b2 => fr b (by omega) (by omega))⟩
    · rw [sql k (by omega), if_neg e, if_neg e]
      have := g.2.2.2.1 k (by omega)
      obtain ⟨a1, a2, a3⟩ := c3 k (by omega)
      have s' : hSpr G R K' (n + 4) (sq k) := Spr_mono (y := x + 100) a2 f9 (fun _ _ _ => rfl) (by omega) (by omega)
      exact ⟨by rw [f5 _ _ (by omega) (by omega) (by omega)]; exact a1, Spr_R s' (hR _ (by omega) (by omega) (by omega)), a3.same (fun b b1 b2 => fr b (by omega) (by omega))⟩
end
