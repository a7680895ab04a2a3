/-! BOTH STATES, SIDE BY SIDE: what the class's cells and the model's say -/
/-- a village: farms, their yards and grudges, told wrongs, lime, coins -/
abbrev Vt : Type := Nat × (Nat → Nat) × Nat × (Nat → Nat) × Nat × Nat
/-- a state: its row, the log, the rows to go back to, the image -/
abbrev Stt : Type := (Nat → Nat) × (Nat → Nat → Nat) × List (Nat → Nat) × Option ((Nat → Nat) × (Nat → Nat → Nat))
abbrev Tpt : Type := Nat × (Nat → Nat)
/-- laws: how many, their codes, the one that holds (0: none) -/
abbrev Lwt : Type := Nat × (Nat → List Int32) × Nat
/-- springs: how many, how long, their steps -/
abbrev Spt : Type := Nat × (Nat → Nat) × (Nat → Nat → Int32)
abbrev Sgt : Type := Nat × (Nat → Nat)
/-- how many yards a wrong is worth -/
def aW (lw : Lwt) : Nat → Nat → Nat → Nat → Nat → Nat → Nat := fun h g mn b l d => if lw.2.2 = 0 then plainW h g else clampN (wv (lw.2.1 (lw.2.2 - 1)) h g mn b l d)
def VT (I : Nat → Nat → Int32) (v nw : Nat) (Il : Nat → Nat) (lm cn : Nat) : Prop := I v 6 = nI nw ∧ I v 7 = nI lm ∧ I v 8 = nI cn ∧ ∀ p, p < nw → I (v + 3) p = nI (Il (3 * p)) ∧ I (v + 4) p = nI (Il (3 * p + 1)) ∧ I (v + 5) p = nI (Il (3 * p + 2))
def okI (nf nw : Nat) (Il : Nat → Nat) (lm cn : Nat) : Prop := nw ≤ 9 ∧ lm ≤ 99 ∧ cn ≤ 99 ∧ ∀ p, p < nw → Il (3 * p) < nf ∧ Il (3 * p + 1) < nf ∧ Il (3 * p) ≠ Il (3 * p + 1) ∧ 1 ≤ Il (3 * p + 2) ∧ Il (3 * p + 2) ≤ 9
def okVl (vl : Vt) : Prop := okV vl.1 vl.2.1 ∧ okI vl.1 vl.2.2.1 vl.2.2.2.1 vl.2.2.2.2.1 vl.2.2.2.2.2
def okSt (vl : Vt) (st : Stt) (B : Nat) : Prop := okT B vl.1 vl.2.1 st.1 ∧ (∀ j, j < st.2.2.1.length → okT B vl.1 vl.2.1 (nth st.2.2.1 j)) ∧ (∀ y, st.2.2.2 = some y → okT B vl.1 vl.2.1 y.1) ∧ st.1 49 ≤ 999 ∧ (∀ j, j < st.2.2.1.length → nth st.2.2.1 j 49 ≤ 999) ∧ (∀ y, st.2.2.2 = some y → y.1 49 ≤ 999)
def cV (I : Nat → Nat → Int32) (v : Nat) (vl : Vt) : Prop := VL I v vl.1 vl.2.1 ∧ VT I v vl.2.2.1 vl.2.2.2.1 vl.2.2.2.2.1 vl.2.2.2.2.2
def cIm (I : Nat → Nat → Int32) (g : Nat) (im : Option ((Nat → Nat) × (Nat → Nat → Nat))) : Prop := (im = none ∧ I g 4 = 0) ∨ (∃ y, im = some y ∧ I g 4 = 1 ∧ KR (I (g + 47)) y.1 ∧ ∀ i w, i < min 60 (y.1 49) → w < 3 → I (g + 49 + w) i = nI (y.2 (y.1 49 - 1 - i) w))
def cL (G : zG) (I : Nat → Nat → Int32) (R : Nat → Nat → Option Nat) (K : Nat → Nat × Nat) (n x : Nat) (lk : Nat → Nat) (lw : Lwt) : Prop :=
  lw.1 ≤ 4 ∧ I x 13 = nI lw.1 ∧ (∀ k, k < lw.1 → R (x + 99) k = some (lk k) ∧ hLaw G R K n (lk k) (lw.2.1 k).length ∧ (lw.2.1 k).length ≤ 240 ∧ ∀ j, j < (lw.2.1 k).length → I (lk k + 1) j = (lw.2.1 k).getD j 0) ∧
  ((lw.2.2 = 0 ∧ I x 15 = -1 ∧ R (x + 3) 1 = none) ∨ (∃ k, k < lw.1 ∧ lw.2.2 = k + 1 ∧ I x 15 = nI k ∧ R (x + 3) 1 = some (lk k)))
def cP (G : zG) (I : Nat → Nat → Int32) (R : Nat → Nat → Option Nat) (K : Nat → Nat × Nat) (n x : Nat) (sq : Nat → Nat) (sp : Spt) : Prop :=
  sp.1 ≤ 4 ∧ I x 14 = nI sp.1 ∧ ∀ k, k < sp.1 → R (x + 100) k = some (sq k) ∧ hSpr G R K n (sq k) ∧ SS I (sq k) (sp.2.1 k) (sp.2.2 k)
def cG (I : Nat → Nat → Int32) (x : Nat) (sg : Sgt) : Prop := sg.1 ≤ 10 ∧ I (x + 82) 0 = nI sg.1 ∧ ∀ i, i < sg.1 → I (x + 83) i = nI (sg.2 (3 * i)) ∧ I (x + 84) i = nI (sg.2 (3 * i + 1)) ∧ I (x + 85) i = nI (sg.2 (3 * i + 2)) ∧ sg.2 (3 * i) < 9 ∧ sg.2 (3 * i + 1) ≤ 40 ∧ sg.2 (3 * i + 2) ≤ 1
/-- where laws and springs lie -/
def Gm (x m n q : Nat) (lk sq : Nat → Nat) (nl ns : Nat) : Prop :=
  x + 112 ≤ m ∧ m + 21 ≤ n ∧ (∀ k, k < nl → m + 21 ≤ lk k ∧ lk k + 3 ≤ n) ∧ (∀ k, k < ns → (sq k = x + 108 ∨ m + 21 ≤ sq k) ∧ sq k + 4 ≤ n) ∧ (q = x + 108 ∨ m + 21 ≤ q) ∧ q + 4 ≤ n ∧
  (∀ k, k < ns → sq k + 4 ≤ q ∨ q + 4 ≤ sq k) ∧ (∀ i j, i < ns → j < nl → sq i + 4 ≤ lk j ∨ lk j + 3 ≤ sq i) ∧ (∀ j, j < nl → q + 4 ≤ lk j ∨ lk j + 3 ≤ q) ∧ (∀ i j, i < nl → j < nl → i ≠ j → lk i + 3 ≤ lk j ∨ lk j + 3 ≤ lk i)
def CIv (G : zG) (I : Nat → Nat → Int32) (R : Nat → Nat → Option Nat) (K : Nat → Nat × Nat) (n x m v w q nx lo M : Nat) (lk sq : Nat → Nat) (vl : Vt) (st : Stt) (tp : Tpt) (lw : Lwt) (sp : Spt) (ap : Nat) (sg : Sgt) (B : Nat) : Prop :=
  hX G R K n x v w q ∧ ((v = x + 4 ∧ w = x + 101) ∨ (v = x + 101 ∧ w = x + 4)) ∧ Gm x m n q lk sq lw.1 sp.1 ∧ TP I (x + 1) tp.1 tp.2 ∧ cV I v vl ∧ okVl vl ∧ CS I (x + 12) st.1 ∧ okSt vl st B ∧ CHr I (x + 28) st.2.2.1 nx ∧ CHd st.1 st.2.2.1 lo M ∧ CLg I (x + 28) (st.1 49) lo M st.2.1 ∧ cIm I (x + 28) st.2.2.2 ∧ cL G I R K n x lk lw ∧ cP G I R K n x sq sp ∧ cG I x sg ∧ (I x 16 = nI ap ∧ ap ≤ 9)
theorem CIv.X {G : zG} {I : Nat → Nat → Int32} {R : Nat → Nat → Option Nat} {K : Nat → Nat × Nat} {n x m v w q nx lo M : Nat} {lk sq : Nat → Nat} {vl : Vt} {st : Stt} {tp : Tpt} {lw : Lwt} {sp : Spt} {ap : Nat} {sg : Sgt} {B : Nat} (C : CIv G I R K n x m v w q nx lo M lk sq vl st tp lw sp ap sg B) : hX G R K n x v w q := C.1
theorem CIv.vw {G : zG} {I : Nat → Nat → Int32} {R : Nat → Nat → Option Nat} {K : Nat → Nat × Nat} {n x m v w q nx lo M : Nat} {lk sq : Nat → Nat} {vl : Vt} {st : Stt} {tp : Tpt} {lw : Lwt} {sp : Spt} {ap : Nat} {sg : Sgt} {B : Nat} (C : CIv G I R K n x m v w q nx lo M lk sq vl st tp lw sp ap sg B) : ((v = x + 4 ∧ w = x + 101) ∨ (v = x + 101 ∧ w = x + 4)) := C.2.1
theorem CIv.gm {G : zG} {I : Nat → Nat → Int32} {R : Nat → Nat → Option Nat} {K : Nat → Nat × Nat} {n x m v w q nx lo M : Nat} {lk sq : Nat → Nat} {vl : Vt} {st : Stt} {tp : Tpt} {lw : Lwt} {sp : Spt} {ap : Nat} {sg : Sgt} {B : Nat} (C : CIv G I R K n x m v w q nx lo M lk sq vl st tp lw sp ap sg B) : Gm x m n q lk sq lw.1 sp.1 := C.2.2.1
theorem CIv.tp {G : zG} {I : Nat → Nat → Int32} {R : Nat → Nat → Option Nat} {K : Nat → Nat × Nat} {n x m v w q nx lo M : Nat} {lk sq : Nat → Nat} {vl : Vt} {st : Stt} {tp : Tpt} {lw : Lwt} {sp : Spt} {ap : Nat} {sg : Sgt} {B : Nat} (C : CIv G I R K n x m v w q nx lo M lk sq vl st tp lw sp ap sg B) : TP I (x + 1) tp.1 tp.2 := C.2.2.2.1
theorem CIv.cv {G : zG} {I : Nat → Nat → Int32} {R : Nat → Nat → Option Nat} {K : Nat → Nat × Nat} {n x m v w q nx lo M : Nat} {lk sq : Nat → Nat} {vl : Vt} {st : Stt} {tp : Tpt} {lw : Lwt} {sp : Spt} {ap : Nat} {sg : Sgt} {B : Nat} (C : CIv G I R K n x m v w q nx lo M lk sq vl st tp lw sp ap sg B) : cV I v vl := C.2.2.2.2.1
theorem CIv.okv {G : zG} {I : Nat → Nat → Int32} {R : Nat → Nat → Option Nat} {K : Nat → Nat × Nat} {n x m v w q nx lo M : Nat} {lk sq : Nat → Nat} {vl : Vt} {st : Stt} {tp : Tpt} {lw : Lwt} {sp : Spt} {ap : Nat} {sg : Sgt} {B : Nat} (C : CIv G I R K n x m v w q nx lo M lk sq vl st tp lw sp ap sg B) : okVl vl := C.2.2.2.2.2.1
theorem CIv.cs {G : zG} {I : Nat → Nat → Int32} {R : Nat → Nat → Option Nat} {K : Nat → Nat × Nat} {n x m v w q nx lo M : Nat} {lk sq : Nat → Nat} {vl : Vt} {st : Stt} {tp : Tpt} {lw : Lwt} {sp : Spt} {ap : Nat} {sg : Sgt} {B : Nat} (C : CIv G I R K n x m v w q nx lo M lk sq vl st tp lw sp ap sg B) : CS I (x + 12) st.1 := C.2.2.2.2.2.2.1
theorem CIv.oks {G : zG} {I : Nat → Nat → Int32} {R : Nat → Nat → Option Nat} {K : Nat → Nat × Nat} {n x m v w q nx lo M : Nat} {lk sq : Nat → Nat} {vl : Vt} {st : Stt} {tp : Tpt} {lw : Lwt} {sp : Spt} {ap : Nat} {sg : Sgt} {B : Nat} (C : CIv G I R K n x m v w q nx lo M lk sq vl st tp lw sp ap sg B) : okSt vl st B := C.2.2.2.2.2.2.2.1
theorem CIv.hr {G : zG} {I : Nat → Nat → Int32} {R : Nat → Nat → Option Nat} {K : Nat → Nat × Nat} {n x m v w q nx lo M : Nat} {lk sq : Nat → Nat} {vl : Vt} {st : Stt} {tp : Tpt} {lw : Lwt} {sp : Spt} {ap : Nat} {sg : Sgt} {B : Nat} (C : CIv G I R K n x m v w q nx lo M lk sq vl st tp lw sp ap sg B) : CHr I (x + 28) st.2.2.1 nx := C.2.2.2.2.2.2.2.2.1
theorem CIv.hd {G : zG} {I : Nat → Nat → Int32} {R : Nat → Nat → Option Nat} {K : Nat → Nat × Nat} {n x m v w q nx lo M : Nat} {lk sq : Nat → Nat} {vl : Vt} {st : Stt} {tp : Tpt} {lw : Lwt} {sp : Spt} {ap : Nat} {sg : Sgt} {B : Nat} (C : CIv G I R K n x m v w q nx lo M lk sq vl st tp lw sp ap sg B) : CHd st.1 st.2.2.1 lo M := C.2.2.2.2.2.2.2.2.2.1
theorem CIv.lg {G : zG} {I : Nat → Nat → Int32} {R : Nat → Nat → Option Nat} {K : Nat → Nat × Nat} {n x m v w q nx lo M : Nat} {lk sq : Nat → Nat} {vl : Vt} {st : Stt} {tp : Tpt} {lw : Lwt} {sp : Spt} {ap : Nat} {sg : Sgt} {B : Nat} (C : CIv G I R K n x m v w q nx lo M lk sq vl st tp lw sp ap sg B) : CLg I (x + 28) (st.1 49) lo M st.2.1 := C.2.2.2.2.2.2.2.2.2.2.1
theorem CIv.im {G : zG} {I : Nat → Nat → Int32} {R : Nat → Nat → Option Nat} {K : Nat → Nat × Nat} {n x m v w q nx lo M : Nat} {lk sq : Nat → Nat} {vl : Vt} {st : Stt} {tp : Tpt} {lw : Lwt} {sp : Spt} {ap : Nat} {sg : Sgt} {B : Nat} (C : CIv G I R K n x m v w q nx lo M lk sq vl st tp lw sp ap sg B) : cIm I (x + 28) st.2.2.2 := C.2.2.2.2.2.2.2.2.2.2.2.1
theorem CIv.cl {G : zG} {I : Nat → Nat → Int32} {R : Nat → Nat → Option Nat} {K : Nat → Nat × Nat} {n x m v w q nx lo M : Nat} {lk sq : Nat → Nat} {vl : Vt} {st : Stt} {tp : Tpt} {lw : Lwt} {sp : Spt} {ap : Nat} {sg : Sgt} {B : Nat} (C : CIv G I R K n x m v w q nx lo M lk sq vl st tp lw sp ap sg B) : cL G I R K n x lk lw := C.2.2.2.2.2.2.2.2.2.2.2.2.1
theorem CIv.cp {G : zG} {I : Nat → Nat → Int32} {R : Nat → Nat → Option Nat} {K : Nat → Nat × Nat} {n x m v w q nx lo M : Nat} {lk sq : Nat → Nat} {vl : Vt} {st : Stt} {tp : Tpt} {lw : Lwt} {sp : Spt} {ap : Nat} {sg : Sgt} {B : Nat} (C : CIv G I R K n x m v w q nx lo M lk sq vl st tp lw sp ap sg B) : cP G I R K n x sq sp := C.2.2.2.2.2.2.2.2.2.2.2.2.2.1
theorem CIv.cg {G : zG} {I : Nat → Nat → Int32} {R : Nat → Nat → Option Nat} {K : Nat → Nat × Nat} {n x m v w q nx lo M : Nat} {lk sq : Nat → Nat} {vl : Vt} {st : Stt} {tp : Tpt} {lw : Lwt} {sp : Spt} {ap : Nat} {sg : Sgt} {B : Nat} (C : CIv G I R K n x m v w q nx lo M lk sq vl st tp lw sp ap sg B) : cG I x sg := C.2.2.2.2.2.2.2.2.2.2.2.2.2.2.1
theorem CIv.ap {G : zG} {I : Nat → Nat → Int32} {R : Nat → Nat → Option Nat} {K : Nat → Nat × Nat} {n x m v w q nx lo M : Nat} {lk sq : Nat → Nat} {vl : Vt} {st : Stt} {tp : Tpt} {lw : Lwt} {sp : Spt} {ap : Nat} {sg : Sgt} {B : Nat} (C : CIv G I R K n x m v w q nx lo M lk sq vl st tp lw sp ap sg B) : (I x 16 = nI ap ∧ ap ≤ 9) := C.2.2.2.2.2.2.2.2.2.2.2.2.2.2.2
theorem endA_code {code code' : Nat → Int32} {c : Nat} (h : ∀ j, j < c → code j = code' j) : ∀ f i, endA code c f i = endA code' c f i
  | 0, _ => rfl
  | f + 1, i => by
    rw [endA, endA]
    by_cases hc : c ≤ i
    · rw [if_pos hc, if_pos hc]
    · rw [if_neg hc, if_neg hc, h i (by omega), endA_code h f (i + 1)]
theorem runA_code {code code' : Nat → Int32} {c : Nat} {L : Nat → Int32} (h : ∀ j, j < c → code j = code' j) : ∀ f i st, runA code c L f i st = runA code' c L f i st
  | 0, _, _ => rfl
  | f + 1, i, st => by
    rw [runA, runA]
    by_cases hc : c ≤ i
    · rw [if_pos hc, if_pos hc]
    · rw [if_neg hc, if_neg hc, h i (by omega), endA_code h]
      simp only [runA_code h f]
section
variable {G : zG} {I I' : Nat → Nat → Int32} {R : Nat → Nat → Option Nat} {K : Nat → Nat × Nat} {n x m v w q nx lo M : Nat} {lk sq : Nat → Nat} {vl : Vt} {st : Stt} {tp : Tpt} {lw : Lwt} {sp : Spt} {ap : Nat} {sg : Sgt} {B : Nat}
theorem CIv.lwh (C : CIv G I R K n x m v w q nx lo M lk sq vl st tp lw sp ap sg B) : LW G R K n I (x + 3) (aW lw) := by
  have g := C.gm
  obtain ⟨h1, h2, h3, h4⟩ := C.cl
  rcases h4 with ⟨e0, -, e2⟩ | ⟨k, hk, e0, -, e2⟩
  · refine Or.inl ⟨e2, fun h g mn b l d => ?_⟩
    unfold aW
    rw [if_pos e0]
  · obtain ⟨-, a2, a3, a4⟩ := h3 k hk
    have g2 := g.2.2.1 k hk
    refine Or.inr ⟨lk k, (lw.2.1 k).length, e2, a2, a3, by have := g.1; omega, fun h gg mn b l d => ?_⟩
    unfold aW wv worthA
    rw [if_neg (by omega), e0, Nat.add_sub_cancel]
    exact congrArg clampN (runA_code (fun j hj => (a4 j hj).symm) _ _ _)
theorem CIv.g1 (C : CIv G I R K n x m v w q nx lo M lk sq vl st tp lw sp ap sg B) : Geo (x + 12) (x + 3) v := by
  have := C.vw
  unfold Geo
  omega
theorem CIv.g2 (C : CIv G I R K n x m v w q nx lo M lk sq vl st tp lw sp ap sg B) : Geo (x + 20) (x + 3) v := by
  have := C.vw
  unfold Geo
  omega
/-- cells of which nothing is said -/
def scr (x w q nx : Nat) (lk : Nat → Nat) (nl : Nat) (b k : Nat) : Prop := (b = x + 1 ∧ k = 2) ∨ b = x + 11 ∨ (b = x + 12 ∧ k = 11) ∨ (x + 19 ≤ b ∧ b < x + 28) ∨ b = x + 30 + nx ∨ b = x + 80 ∨ b = x + 81 ∨ (x + 86 ≤ b ∧ b < x + 99) ∨ (w ≤ b ∧ b < w + 7) ∨ (q ≤ b ∧ b < q + 4) ∨ (∃ j, j < nl ∧ b = lk j + 2)
/-- b is none of these, whatever k -/
def inn (x w q nx : Nat) (lk : Nat → Nat) (nl : Nat) (b : Nat) : Prop := b ≠ x + 1 ∧ b ≠ x + 11 ∧ b ≠ x + 12 ∧ ¬ (x + 19 ≤ b ∧ b < x + 28) ∧ b ≠ x + 30 + nx ∧ b ≠ x + 80 ∧ b ≠ x + 81 ∧ ¬ (x + 86 ≤ b ∧ b < x + 99) ∧ ¬ (w ≤ b ∧ b < w + 7) ∧ ¬ (q ≤ b ∧ b < q + 4) ∧ (∀ j, j < nl → b ≠ lk j + 2)
theorem inn.no {x w q nx : Nat} {lk : Nat → Nat} {nl b k : Nat} (h : inn x w q nx lk nl b) : ¬ scr x w q nx lk nl b k := by
  obtain ⟨h1, h2, h3, h4, h5, h6, h7, h8, h9, h10, h11⟩ := h
  rintro (h | h | h | h | h | h | h | h | h | h | ⟨j, hj, h⟩)
  · exact h1 h.1
  · exact h2 h
  · exact h3 h.1
  · exact h4 h
  · exact h5 h
  · exact h6 h
  · exact h7 h
  · exact h8 h
  · exact h9 h
  · exact h10 h
  · exact h11 j hj h
theorem scr.sm {x w q nx : Nat} {lk : Nat → Nat} {nl b k : Nat} (hb : b < x + 101) (hw : ¬ (w ≤ b ∧ b < w + 7)) (hq : x + 108 ≤ q) (hl : ∀ j, j < nl → x + 112 ≤ lk j) (h1 : ¬ (b = x + 1 ∧ k = 2)) (h2 : b ≠ x + 11) (h3 : ¬ (b = x + 12 ∧ k = 11)) (h4 : ¬ (x + 19 ≤ b ∧ b < x + 28)) (h5 : b ≠ x + 30 + nx) (h6 : b ≠ x + 80) (h7 : b ≠ x + 81) (h8 : ¬ (x + 86 ≤ b ∧ b < x + 99)) : ¬ scr x w q nx lk nl b k := by
  rintro (h | h | h | h | h | h | h | h | h | h | ⟨j, hj, h⟩)
  · exact h1 h
  · exact h2 h
  · exact h3 h
  · exact h4 h
  · exact h5 h
  · exact h6 h
  · exact h7 h
  · exact h8 h
  · exact hw h
  · omega
  · have := hl j hj; omega
theorem cV.same (V : cV I v vl) (h : ∀ b, v ≤ b → b < v + 6 → I' b = I b) : cV I' v vl := by
  unfold cV VL VT
  rw [h v (by omega) (by omega), h (v + 1) (by omega) (by omega), h (v + 2) (by omega) (by omega), h (v + 3) (by omega) (by omega), h (v + 4) (by omega) (by omega), h (v + 5) (by omega) (by omega)]
  exact V
theorem CS.same11 {a : Nat} {T : Nat → Nat} (C : CS I a T) (h0 : ∀ k, k ≠ 11 → I' a k = I a k) (h : ∀ b, a < b → b < a + 7 → I' b = I b) : CS I' a T := by
  unfold CS
  rw [h0 6 (by omega), h0 7 (by omega), h0 8 (by omega), h0 9 (by omega), h0 10 (by omega), h (a + 1) (by omega) (by omega), h (a + 2) (by omega) (by omega), h (a + 3) (by omega) (by omega), h (a + 4) (by omega) (by omega), h (a + 5) (by omega) (by omega), h (a + 6) (by omega) (by omega)]
  exact C
theorem CLg.same {g day : Nat} {LG : Nat → Nat → Nat} (C : CLg I g day lo M LG) (h : ∀ b, g + 44 ≤ b → b < g + 47 → I' b = I b) : CLg I' g day lo M LG := by
  intro e w hw h1 h2 h3
  rw [h _ (by omega) (by omega)]
  exact C e w hw h1 h2 h3
theorem cIm.same {g : Nat} {im : Option ((Nat → Nat) × (Nat → Nat → Nat))} (C : cIm I g im) (h4 : I' g 4 = I g 4) (h : ∀ b, g + 47 ≤ b → b < g + 52 → I' b = I b) : cIm I' g im := by
  rcases C with ⟨e, h0⟩ | ⟨y, e, h0, h1, h2⟩
  · exact Or.inl ⟨e, by rw [h4]; exact h0⟩
  · refine Or.inr ⟨y, e, by rw [h4]; exact h0, by rw [h _ (by omega) (by omega)]; exact h1, fun i w hi hw => ?_⟩
    rw [h _ (by omega) (by omega)]
    exact h2 i w hi hw
theorem SS.same {q sz : Nat} {P : Nat → Int32} (C : SS I q sz P) (h : ∀ b, q ≤ b → b < q + 4 → I' b = I b) : SS I' q sz P := by
  unfold SS
  rw [h q (by omega) (by omega), h (q + 1) (by omega) (by omega), h (q + 2) (by omega) (by omega), h (q + 3) (by omega) (by omega)]
  exact C
theorem cL.same (C : cL G I R K n x lk lw) (h : ∀ k, I' x k = I x k) (h1 : ∀ k, k < lw.1 → I' (lk k + 1) = I (lk k + 1)) : cL G I' R K n x lk lw := by
  obtain ⟨c1, c2, c3, c4⟩ := C
  refine ⟨c1, by rw [h]; exact c2, fun k hk => ?_, ?_⟩
  · rw [h1 k hk]; exact c3 k hk
  · rw [h]; exact c4
theorem cP.same (C : cP G I R K n x sq sp) (h : ∀ k, I' x k = I x k) (h1 : ∀ k b, k < sp.1 → sq k ≤ b → b < sq k + 4 → I' b = I b) : cP G I' R K n x sq sp := by
  obtain ⟨c1, c2, c3⟩ := C
  exact ⟨c1, by rw [h]; exact c2, fun k hk => ⟨(c3 k hk).1, (c3 k hk).2.1, (c3 k hk).2.2.same (h1 k · hk)⟩⟩
theorem cG.same (C : cG I x sg) (h : ∀ b, x + 82 ≤ b → b < x + 86 → I' b = I b) : cG I' x sg := by
  unfold cG
  rw [h (x + 82) (by omega) (by omega), h (x + 83) (by omega) (by omega), h (x + 84) (by omega) (by omega), h (x + 85) (by omega) (by omega)]
  exact C
theorem CIv.same (C : CIv G I R K n x m v w q nx lo M lk sq vl st tp lw sp ap sg B) (h : ∀ b k, ¬ scr x w q nx lk lw.1 b k → I' b k = I b k) : CIv G I' R K n x m v w q nx lo M lk sq vl st tp lw sp ap sg B := by
  have vw := C.vw
  obtain ⟨g1, g2, g3, g4, g5, g6, g7, g8, g9, g10⟩ := C.gm
  have hl : ∀ j, j < lw.1 → x + 112 ≤ lk j := fun j hj => by have := g3 j hj; omega
  have hq : x + 108 ≤ q := by omega
  have hs : ∀ b k, b < x + 101 → ¬ (w ≤ b ∧ b < w + 7) → ¬ (b = x + 1 ∧ k = 2) → b ≠ x + 11 → ¬ (b = x + 12 ∧ k = 11) → ¬ (x + 19 ≤ b ∧ b < x + 28) → b ≠ x + 30 + nx → b ≠ x + 80 → b ≠ x + 81 → ¬ (x + 86 ≤ b ∧ b < x + 99) → I' b k = I b k := fun b k a1 a2 a3 a4 a5 a6 a7 a8 a9 a10 => h b k (scr.sm a1 a2 hq hl a3 a4 a5 a6 a7 a8 a9 a10)
  have hnx := C.hr.2.2.1
  refine ⟨C.X, C.vw, C.gm, ?_, ?_, C.okv, ?_, C.oks, ?_, C.hd, ?_, ?_, ?_, ?_, ?_, ?_⟩
  · exact C.tp.same (hs _ _ (by omega) (by omega) (by omega) (by omega) (by omega) (by omega) (by omega) (by omega) (by omega) (by omega)) (funext fun k => hs _ _ (by omega) (by omega) (by omega) (by omega) (by omega) (by omega) (by omega) (by omega) (by omega) (by omega))
  · refine C.cv.same (fun b b1 b2 => funext fun k => ?_)
    refine h b k ?_
    rintro (h | h | h | h | h | h | h | h | h | h | ⟨j, hj, h⟩)
    all_goals first | omega | (have := hl j hj; omega)
  · exact C.cs.same11 (fun k hk => hs _ _ (by omega) (by omega) (by omega) (by omega) (by omega) (by omega) (by omega) (by omega) (by omega) (by omega)) (fun b b1 b2 => funext fun k => hs _ _ (by omega) (by omega) (by omega) (by omega) (by omega) (by omega) (by omega) (by omega) (by omega) (by omega))
  · exact C.hr.same (funext fun k => hs _ _ (by omega) (by omega) (by omega) (by omega) (by omega) (by omega) (by omega) (by omega) (by omega) (by omega)) (fun j hj hne => funext fun k => hs _ _ (by omega) (by omega) (by omega) (by omega) (by omega) (by omega) (by omega) (by omega) (by omega) (by omega))
  · exact C.lg.same (fun b b1 b2 => funext fun k => hs _ _ (by omega) (by omega) (by omega) (by omega) (by omega) (by omega) (by omega) (by omega) (by omega) (by omega))
  · exact C.im.same (hs _ _ (by omega) (by omega) (by omega) (by omega) (by omega) (by omega) (by omega) (by omega) (by omega) (by omega)) (fun b b1 b2 => funext fun k => hs _ _ (by omega) (by omega) (by omega) (by omega) (by omega) (by omega) (by omega) (by omega) (by omega) (by omega))
  · refine C.cl.same (fun k => hs _ _ (by omega) (by omega) (by omega) (by omega) (by omega) (by omega) (by omega) (by omega) (by omega) (by omega)) (fun k hk => funext fun i => ?_)
    have a1 := g3 k hk
    have a2 := g9 k hk
    refine h _ _ ?_
    rintro (h | h | h | h | h | h | h | h | h | h | ⟨j, hj, h⟩)
    all_goals first | omega | (have e : k ≠ j := (fun e => (by subst e; omega)); have := g10 k j hk hj e; omega)
  · refine C.cp.same (fun k => hs _ _ (by omega) (by omega) (by omega) (by omega) (by omega) (by omega) (by omega) (by omega) (by omega) (by omega)) (fun k b hk b1 b2 => funext fun i => ?_)
    have a1 := g4 k hk
    have a2 := g7 k hk
    refine h _ _ ?_
    rintro (h | h | h | h | h | h | h | h | h | h | ⟨j, hj, h⟩)
    all_goals first | omega | (have := g8 k j hk hj; omega)
  · exact C.cg.same (fun b b1 b2 => funext fun k => hs _ _ (by omega) (by omega) (by omega) (by omega) (by omega) (by omega) (by omega) (by omega) (by omega) (by omega))
  · rw [hs x 16 (by omega) (by omega) (by omega) (by omega) (by omega) (by omega) (by omega) (by omega) (by omega) (by omega)]
    exact C.ap
end
