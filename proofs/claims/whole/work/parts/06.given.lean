theorem zGetsT {G : zG} {d kc ks pc : Nat} {M : zM} {ls : List (Nat × Value)} {st : List Value} {h : zH} {Q : Option Value → zH → Prop} (i idx : Nat) (pc' : Nat) (hd : decode M.2.1 pc = .ok (.getstatic idx, 3)) (hn : pc + 3 = pc') (hi : i < 3) (hw : Cond.fieldLink M.1.cls idx RX10 (zTnm i) "[I" ∈ lw_tbl) (K : zV G d M kc ks pc' ls (.ref (G.2.2.2.2.2.1 i) :: st) h Q) : zV G d M kc ks pc ls st h Q := by
  subst hn
  intro p l e R s m args below meth c H locs cells slots la X hA hS hc hs hl
  exact va_gets X.1 X.2.1 (X.2.2.2.2.2.2.2.1.2.2.1.2.1 i hi).1 hS X.2.2.2.2.2.1 (X.2.2.2.2.2.2.2.1.1 _ _ hw rfl) (fun x q => q) hd (K p l e R s m args below meth c H locs cells slots la X hA hS hc hs hl)
theorem zTaload {G : zG} {d kc ks pc : Nat} {M : zM} {ls : List (Nat × Value)} {st : List Value} {h : zH} {Q : Option Value → zH → Prop} {i : Int32} (k : Nat) (pc' : Nat) (hd : decode M.2.1 pc = .ok (.iaload, 1)) (hn : pc + 1 = pc') (hk : k < 3) (hin : vp_in i (zTbl k).length) (K : zV G d M kc ks pc' ls (.int ((zTbl k).getD i.toNatClampNeg 0) :: st) h Q) : zV G d M kc ks pc ls (.int i :: .ref (G.2.2.2.2.2.1 k) :: st) h Q := by
  subst hn
  intro p l e R s m args below meth c H locs cells slots la X hA hS hc hs hl
  exact va_ti X.1 X.2.1 (X.2.2.2.2.2.2.2.1.2.2.1.2.1 k hk).2 hS hin rfl hd (K p l e R s m args below meth c H locs cells slots la X hA hS hc hs hl)
theorem zGetsC {G : zG} {d kc ks pc : Nat} {M : zM} {ls : List (Nat × Value)} {st : List Value} {h : zH} {Q : Option Value → zH → Prop} (idx : Nat) (pc' : Nat) (hd : decode M.2.1 pc = .ok (.getstatic idx, 3)) (hn : pc + 3 = pc') (hw : Cond.fieldLink M.1.cls idx "java/lang/String" "COMPACT_STRINGS" "Z" ∈ lw_tbl) (K : zV G d M kc ks pc' ls (.int 1 :: st) h Q) : zV G d M kc ks pc ls st h Q := by
  subst hn
  intro p l e R s m args below meth c H locs cells slots la X hA hS hc hs hl
  exact va_gets X.1 X.2.1 X.2.2.2.2.2.2.2.1.2.2.1.2.2.2.1 hS X.2.2.2.2.2.1 (X.2.2.2.2.2.2.2.1.1 _ _ hw rfl) (fun x q => q) hd (K p l e R s m args below meth c H locs cells slots la X hA hS hc hs hl)
theorem zGetsF {G : zG} {d kc ks pc : Nat} {M : zM} {ls : List (Nat × Value)} {st : List Value} {h : zH} {Q : Option Value → zH → Prop} (idx pc' : Nat) (hd : decode M.2.1 pc = .ok (.getstatic idx, 3)) (hn : pc + 3 = pc') (hw : Cond.fieldLink M.1.cls idx "jdk/internal/util/Preconditions" "SIOOBE_FORMATTER" "Ljava/util/function/BiFunction;" ∈ lw_tbl) (K : ∀ r : Option Nat, zV G d M kc ks pc' ls (va_rf r :: st) h Q) : zV G d M kc ks pc ls st h Q := by
  subst hn
  intro p l e R s m args below meth c H locs cells slots la X hA hS hc hs hl
  rcases X.2.2.2.2.2.2.2.1.2.2.1.2.2.2.2.1 with hZ | ⟨t, hZ⟩
  · exact va_gets X.1 X.2.1 hZ hS X.2.2.2.2.2.1 (X.2.2.2.2.2.2.2.1.1 _ _ hw rfl) (fun x q => q) hd (K none p l e R s m args below meth c H locs cells slots la X hA hS hc hs hl)
  · exact va_gets X.1 X.2.1 hZ hS X.2.2.2.2.2.1 (X.2.2.2.2.2.2.2.1.1 _ _ hw rfl) (fun x q => q) hd (K (some t) p l e R s m args below meth c H locs cells slots la X hA hS hc hs hl)
theorem zStrV {G : zG} {d kc ks pc : Nat} {M : zM} {ls : List (Nat × Value)} {st : List Value} {h : zH} {Q : Option Value → zH → Prop} (i idx : Nat) (pc' : Nat) (hd : decode M.2.1 pc = .ok (.getfield idx, 3)) (hn : pc + 3 = pc') (hi : i < 6) (hw : Cond.fieldLink M.1.cls idx "java/lang/String" "value" "[B" ∈ lw_tbl) (K : zV G d M kc ks pc' ls (.ref (G.2.2.2.2.1 i) :: st) h Q) : zV G d M kc ks pc ls (.ref (G.2.2.2.1 i) :: st) h Q := by
  subst hn
  intro p l e R s m args below meth c H locs cells slots la X hA hS hc hs hl
  exact vk_getf X.1 X.2.1 (X.2.2.2.2.2.2.2.1.2.2.1.1.1 i hi).2.2.1 hS X.2.2.2.2.2.1 (X.2.2.2.2.2.2.2.1.1 _ _ hw rfl) (fun x q => q) hd (K p l e R s m args below meth c H locs cells slots la X hA hS hc hs hl)
theorem zStrC {G : zG} {d kc ks pc : Nat} {M : zM} {ls : List (Nat × Value)} {st : List Value} {h : zH} {Q : Option Value → zH → Prop} (i idx : Nat) (pc' : Nat) (hd : decode M.2.1 pc = .ok (.getfield idx, 3)) (hn : pc + 3 = pc') (hi : i < 6) (hw : Cond.fieldLink M.1.cls idx "java/lang/String" "coder" "B" ∈ lw_tbl) (K : zV G d M kc ks pc' ls (.int 0 :: st) h Q) : zV G d M kc ks pc ls (.ref (G.2.2.2.1 i) :: st) h Q := by
  subst hn
  intro p l e R s m args below meth c H locs cells slots la X hA hS hc hs hl
  exact vk_getf X.1 X.2.1 (X.2.2.2.2.2.2.2.1.2.2.1.1.1 i hi).2.1 hS X.2.2.2.2.2.1 (X.2.2.2.2.2.2.2.1.1 _ _ hw rfl) (fun x q => q) hd (K p l e R s m args below meth c H locs cells slots la X hA hS hc hs hl)
theorem zStrL {G : zG} {d kc ks pc : Nat} {M : zM} {ls : List (Nat × Value)} {st : List Value} {h : zH} {Q : Option Value → zH → Prop} (i : Nat) (pc' : Nat) (hd : decode M.2.1 pc = .ok (.arraylength, 1)) (hn : pc + 1 = pc') (hi : i < 6) (K : zV G d M kc ks pc' ls (.int (nI (zStrN.getD i 0)) :: st) h Q) : zV G d M kc ks pc ls (.ref (G.2.2.2.2.1 i) :: st) h Q := by
  subst hn
  intro p l e R s m args below meth c H locs cells slots la X hA hS hc hs hl
  exact va_tlen X.1 X.2.1 (X.2.2.2.2.2.2.2.1.2.2.1.1.1 i hi).2.2.2 hS rfl hd (K p l e R s m args below meth c H locs cells slots la X hA hS hc hs hl)
theorem zStrAt {G : zG} {d kc ks pc : Nat} {M : zM} {ls : List (Nat × Value)} {st : List Value} {h : zH} {Q : Option Value → zH → Prop} {j : Int32} (i : Nat) (pc' : Nat) (hd : decode M.2.1 pc = .ok (.baload, 1)) (hn : pc + 1 = pc') (hi : i < 6) (hin : vp_in j (zStrN.getD i 0)) (K : zV G d M kc ks pc' ls (.int ((zStrB.getD i []).getD j.toNatClampNeg 0) :: st) h Q) : zV G d M kc ks pc ls (.int j :: .ref (G.2.2.2.2.1 i) :: st) h Q := by
  subst hn
  intro p l e R s m args below meth c H locs cells slots la X hA hS hc hs hl
  exact va_tb X.1 X.2.1 (X.2.2.2.2.2.2.2.1.2.2.1.1.1 i hi).2.2.2 hS hin rfl hd (K p l e R s m args below meth c H locs cells slots la X hA hS hc hs hl)
theorem zObjI {G : zG} {d kc ks pc : Nat} {M : zM} {ls : List (Nat × Value)} {st : List Value} {h : zH} {Q : Option Value → zH → Prop} {a : Nat} (idx pc' : Nat) (hd : decode M.2.1 pc = .ok (.invokespecial idx, 3)) (hn : pc + 3 = pc') (hw : Cond.methodLink M.1.cls idx objectInit ∈ lw_tbl) (hw2 : Cond.instanceMethod objectInit ∈ lw_tbl) (hw3 : Cond.code objectInit ⟨#[0xb1]⟩ 1 none ∈ lw_tbl) (hrest : (st.map fun v => v.category).sum ≤ 8) (K : zV G (d + 1) M kc ks pc' ls st h Q) : zV G (d + 1) M kc ks pc ls (.ref a :: st) h Q := by
  subst hn
  intro p l e R s m args below meth c H locs cells slots la X hA hS hc hs hl
  have h1 := X.2.2.2.2.2.2.2.2.1
  have h2 := X.2.2.2.2.2.2.2.2.2.1
  refine W.objInit X.1 X.2.1 X.2.2.2.2.2.1 (X.2.2.2.2.2.2.2.1.1 _ _ hw rfl) (X.2.2.2.2.2.2.2.1.1 _ _ hw2 rfl) (X.2.2.2.2.2.2.2.1.1 _ _ hw3 rfl) rfl (by rw [X.2.2.1]; exact hl.1) rfl hd (by omega) ?_ (K p l e R s m args below meth c H locs cells slots la X hA hS hc hs hl)
  show 2 * 0 + _ + 12 ≤ R.locals
  omega
theorem zMax {G : zG} {d kc ks pc : Nat} {M : zM} {ls : List (Nat × Value)} {st : List Value} {h : zH} {Q : Option Value → zH → Prop} {x y : Int32} (idx pc' : Nat) (hd : decode M.2.1 pc = .ok (.invokestatic idx, 3)) (hn : pc + 3 = pc') (hw : Cond.methodLink M.1.cls idx Lib.Math.max.name ∈ lw_tbl) (hw2 : Cond.static Lib.Math.max.name ∈ lw_tbl) (hw3 : Cond.initialized "java/lang/Math" ∈ lw_tbl) (hw4 : Cond.code Lib.Math.max.name Lib.Math.max.code 2 (some .int) ∈ lw_tbl) (hrest : (st.map fun v => v.category).sum ≤ 8) (K : zV G (d + 1) M kc ks pc' ls (.int (if x < y then y else x) :: st) h Q) : zV G (d + 1) M kc ks pc ls (.int y :: .int x :: st) h Q := by
  subst hn
  intro p l e R s m args below meth c H locs cells slots la X hA hS hc hs hl
  have h1 := X.2.2.2.2.2.2.2.2.1
  have h2 := X.2.2.2.2.2.2.2.2.2.1
  exact va_mmax X.1 X.2.1 (by rw [X.2.2.1]; exact hl.1.symm) X.2.2.2.2.2.1 (X.2.2.2.2.2.2.2.1.1 _ _ hw rfl) (X.2.2.2.2.2.2.2.1.1 _ _ hw2 rfl) (X.2.2.2.2.2.2.2.1.1 _ _ hw3 rfl) (X.2.2.2.2.2.2.2.1.1 _ _ hw4 rfl) (by omega) (by omega) (by omega) (by omega) hd (K p l e R s m args below meth c H locs cells slots la X hA hS hc hs hl)
theorem zMin {G : zG} {d kc ks pc : Nat} {M : zM} {ls : List (Nat × Value)} {st : List Value} {h : zH} {Q : Option Value → zH → Prop} {x y : Int32} (idx pc' : Nat) (hd : decode M.2.1 pc = .ok (.invokestatic idx, 3)) (hn : pc + 3 = pc') (hw : Cond.methodLink M.1.cls idx Lib.Math.min.name ∈ lw_tbl) (hw2 : Cond.static Lib.Math.min.name ∈ lw_tbl) (hw3 : Cond.initialized "java/lang/Math" ∈ lw_tbl) (hw4 : Cond.code Lib.Math.min.name Lib.Math.min.code 2 (some .int) ∈ lw_tbl) (hrest : (st.map fun v => v.category).sum ≤ 8) (K : zV G (d + 1) M kc ks pc' ls (.int (if y < x then y else x) :: st) h Q) : zV G (d + 1) M kc ks pc ls (.int y :: .int x :: st) h Q := by
  subst hn
  intro p l e R s m args below meth c H locs cells slots la X hA hS hc hs hl
  have h1 := X.2.2.2.2.2.2.2.2.1
  have h2 := X.2.2.2.2.2.2.2.2.2.1
  exact va_mmin X.1 X.2.1 (by rw [X.2.2.1]; exact hl.1.symm) X.2.2.2.2.2.1 (X.2.2.2.2.2.2.2.1.1 _ _ hw rfl) (X.2.2.2.2.2.2.2.1.1 _ _ hw2 rfl) (X.2.2.2.2.2.2.2.1.1 _ _ hw3 rfl) (X.2.2.2.2.2.2.2.1.1 _ _ hw4 rfl) (by omega) (by omega) (by omega) (by omega) hd (K p l e R s m args below meth c H locs cells slots la X hA hS hc hs hl)
theorem zAbs {G : zG} {d kc ks pc : Nat} {M : zM} {ls : List (Nat × Value)} {st : List Value} {h : zH} {Q : Option Value → zH → Prop} {x : Int32} (idx pc' : Nat) (hd : decode M.2.1 pc = .ok (.invokestatic idx, 3)) (hn : pc + 3 = pc') (hw : Cond.methodLink M.1.cls idx Lib.Math.abs.name ∈ lw_tbl) (hw2 : Cond.static Lib.Math.abs.name ∈ lw_tbl) (hw3 : Cond.initialized "java/lang/Math" ∈ lw_tbl) (hw4 : Cond.code Lib.Math.abs.name Lib.Math.abs.code 1 (some .int) ∈ lw_tbl) (hrest : (st.map fun v => v.category).sum ≤ 8) (K : zV G (d + 1) M kc ks pc' ls (.int (if 0 ≤ x then x else 0 - x) :: st) h Q) : zV G (d + 1) M kc ks pc ls (.int x :: st) h Q := by
  subst hn
  intro p l e R s m args below meth c H locs cells slots la X hA hS hc hs hl
  have h1 := X.2.2.2.2.2.2.2.2.1
  have h2 := X.2.2.2.2.2.2.2.2.2.1
  exact va_mabs X.1 X.2.1 (by rw [X.2.2.1]; exact hl.1.symm) X.2.2.2.2.2.1 (X.2.2.2.2.2.2.2.1.1 _ _ hw rfl) (X.2.2.2.2.2.2.2.1.1 _ _ hw2 rfl) (X.2.2.2.2.2.2.2.1.1 _ _ hw3 rfl) (X.2.2.2.2.2.2.2.1.1 _ _ hw4 rfl) (by omega) (by omega) (by omega) (by omega) hd (K p l e R s m args below meth c H locs cells slots la X hA hS hc hs hl)
theorem zMaxL {G : zG} {d kc ks pc : Nat} {M : zM} {ls : List (Nat × Value)} {st : List Value} {h : zH} {Q : Option Value → zH → Prop} {x y : Int64} (idx pc' : Nat) (hd : decode M.2.1 pc = .ok (.invokestatic idx, 3)) (hn : pc + 3 = pc') (hw : Cond.methodLink M.1.cls idx Lib.MathLoose.max_long.x ∈ lw_tbl) (hw2 : Cond.static Lib.MathLoose.max_long.x ∈ lw_tbl) (hw3 : Cond.initialized "java/lang/Math" ∈ lw_tbl) (hw4 : Cond.code Lib.MathLoose.max_long.x Lib.MathLoose.max_long.code 4 (some .long) ∈ lw_tbl) (hrest : (st.map fun v => v.category).sum ≤ 8) (K : zV G (d + 1) M kc ks pc' ls (.long (if y < x then x else y) :: st) h Q) : zV G (d + 1) M kc ks pc ls (.long y :: .long x :: st) h Q := by
  subst hn
  intro p l e R s m args below meth c H locs cells slots la X hA hS hc hs hl
  have h1 := X.2.2.2.2.2.2.2.2.1
  have h2 := X.2.2.2.2.2.2.2.2.2.1
  exact va_mmax_long X.1 X.2.1 (by rw [X.2.2.1]; exact hl.1.symm) X.2.2.2.2.2.1 (X.2.2.2.2.2.2.2.1.1 _ _ hw rfl) (X.2.2.2.2.2.2.2.1.1 _ _ hw2 rfl) (X.2.2.2.2.2.2.2.1.1 _ _ hw3 rfl) (X.2.2.2.2.2.2.2.1.1 _ _ hw4 rfl) (by omega) (by omega) (by omega) (by omega) hd (K p l e R s m args below meth c H locs cells slots la X hA hS hc hs hl)
theorem zMinL {G : zG} {d kc ks pc : Nat} {M : zM} {ls : List (Nat × Value)} {st : List Value} {h : zH} {Q : Option Value → zH → Prop} {x y : Int64} (idx pc' : Nat) (hd : decode M.2.1 pc = .ok (.invokestatic idx, 3)) (hn : pc + 3 = pc') (hw : Cond.methodLink M.1.cls idx Lib.MathLoose.min_long.x ∈ lw_tbl) (hw2 : Cond.static Lib.MathLoose.min_long.x ∈ lw_tbl) (hw3 : Cond.initialized "java/lang/Math" ∈ lw_tbl) (hw4 : Cond.code Lib.MathLoose.min_long.x Lib.MathLoose.min_long.code 4 (some .long) ∈ lw_tbl) (hrest : (st.map fun v => v.category).sum ≤ 8) (K : zV G (d + 1) M kc ks pc' ls (.long (if y < x then y else x) :: st) h Q) : zV G (d + 1) M kc ks pc ls (.long y :: .long x :: st) h Q := by
  subst hn
  intro p l e R s m args below meth c H locs cells slots la X hA hS hc hs hl
  have h1 := X.2.2.2.2.2.2.2.2.1
  have h2 := X.2.2.2.2.2.2.2.2.2.1
  exact va_mmin_long X.1 X.2.1 (by rw [X.2.2.1]; exact hl.1.symm) X.2.2.2.2.2.1 (X.2.2.2.2.2.2.2.1.1 _ _ hw rfl) (X.2.2.2.2.2.2.2.1.1 _ _ hw2 rfl) (X.2.2.2.2.2.2.2.1.1 _ _ hw3 rfl) (X.2.2.2.2.2.2.2.1.1 _ _ hw4 rfl) (by omega) (by omega) (by omega) (by omega) hd (K p l e R s m args below meth c H locs cells slots la X hA hS hc hs hl)
/-- one row changed as a whole -/
def zRow {α : Type} (f : Nat → Nat → α) (a : Nat) (g : Nat → α) : Nat → Nat → α := fun b => if b = a then g else f b
theorem zRow_off {α : Type} {f : Nat → Nat → α} {a b : Nat} {g : Nat → α} (h : b ≠ a) : zRow f a g b = f b := if_neg h
theorem zRow_at {α : Type} {f : Nat → Nat → α} {a : Nat} {g : Nat → α} : zRow f a g a = g := if_pos rfl
theorem zNfw : nativeFrameWords "java/lang/System" "arraycopy" 5 ≤ 40 := by decide +kernel
theorem zNat {z : Int32} (h : ¬ z < 0) : z.toInt = (z.toNatClampNeg : Int) := by
  rw [Int32.lt_iff_toInt_lt] at h
  have q : (0 : Int) ≤ z.toInt := by simpa using h
  exact (Int.toNat_of_nonneg q).symm
theorem zCopy {G : zG} {d kc ks pc : Nat} {M : zM} {ls : List (Nat × Value)} {st : List Value} {h : zH} {Q : Option Value → zH → Prop} {a0 a : Nat} {sp dp n : Int32} (idx n0 n1 pc' : Nat) (hd : decode M.2.1 pc = .ok (.invokestatic idx, 3)) (hn : pc + 3 = pc') (hw : Cond.methodLink M.1.cls idx arraycopyName ∈ lw_tbl) (hw2 : Cond.native arraycopyName ∈ lw_tbl) (hw3 : Cond.static arraycopyName ∈ lw_tbl) (hw4 : Cond.initialized "java/lang/System" ∈ lw_tbl) (hrest : (st.map fun v => v.category).sum ≤ 8) (ha0 : zAr G h a0 32 n0) (ha : zAr G h a 32 n1) (h1 : ¬ sp < 0) (h2 : ¬ dp < 0) (h3 : ¬ n < 0) (h4 : sp.toNatClampNeg + n.toNatClampNeg ≤ n0) (h5 : dp.toNatClampNeg + n.toNatClampNeg ≤ n1) (K : zV G (d + 1) M kc ks pc' ls st (zRow h.1 a (va_cpy (h.1 a0) (h.1 a) sp.toNatClampNeg dp.toNatClampNeg n.toNatClampNeg), h.2) Q) : zV G (d + 1) M kc ks pc ls (.int n :: .int dp :: .ref a :: .int sp :: .ref a0 :: st) h Q := by
  subst hn
  intro p l e R s m args below meth c H locs cells slots la X hA hS hc hs hl T hT XX
  have q1 := X.2.2.2.2.2.2.2.2.1
  have q2 := X.2.2.2.2.2.2.2.2.2.1
  have q3 := zNfw
  have tb := X.2.2.2.2.2.2.2.1.1 args
  have row : ∀ y k : Nat, zAr G h y 32 k → T.heap[y]? = some (arrV (G.2.2.1 0) k (fun j => .int (h.1 y j))) := fun y k hy => by
    have q := hA.1 y hy.1 hy.2.1 (by rw [hy.2.2]; simp)
    rw [zCell_i hy.2.2 (by decide) (by decide)] at q
    rw [hT]
    exact q
  have from' : ∀ i, i < n.toNatClampNeg → (arrV (G.2.2.1 0) n0 (fun j => Value.int (h.1 a0 j))).slots.getD (sp.toNatClampNeg + i) .null = .int (h.1 a0 (sp.toNatClampNeg + i)) := fun i hi => by
    rw [Array.getD_eq_getD_getElem?, arrV_read _ _ (show sp.toNatClampNeg + i < n0 by omega), Option.getD_some]
  obtain ⟨-, kA, w1, cm, w2⟩ := (X.2.2.2.2.2.2.2.1.2.2.2.1.2 0 (G.2.2.1 0, .int) rfl).1 n0 (fun j => .int (h.1 a0 j))
  obtain ⟨vm', X', go⟩ := XX.arraycopy X.1 X.2.2.2.2.2.1 (tb _ hw rfl) (tb _ hw2 rfl) (tb _ hw3 rfl) (tb _ hw4 rfl) (row a0 n0 ha0) (row a n1 ha) (by rintro _ ⟨⟩) (by rintro _ ⟨⟩) (by rintro ⟨⟩) (by rintro ⟨⟩) w1 w1 w2 w2 rfl h1 h2 h3
    (by rw [arrV_size, zNat h1, zNat h3]; omega) (by rw [arrV_size, zNat h2, zNat h3]; omega) (fun _ _ i hi => by rw [from' i hi]; exact ⟨rfl, trivial⟩)
    (g := F0 m pc la (.int n :: .int dp :: .ref a :: .int sp :: .ref a0 :: st)) rfl (by rw [X.2.2.1]; exact hl.1) (rest := st) rfl (by rw [X.2.1]; exact hd) (by omega) (by show 2 * 0 + _ + _ ≤ _; omega)
  rw [show copied (arrV (G.2.2.1 0) n0 (fun j => .int (h.1 a0 j))) (arrV (G.2.2.1 0) n1 (fun j => .int (h.1 a j))) sp dp n = arrV (G.2.2.1 0) n1 (fun j => .int (va_cpy (h.1 a0) (h.1 a) sp.toNatClampNeg dp.toNatClampNeg n.toNatClampNeg j)) from va_copied Value.int _ _ _ _ h4] at X' go
  have lt : a < (T.setVm vm').heap.size := (Array.getElem?_eq_some_iff.mp (row a n1 ha)).1
  have r1 := heapAt_setCell_self (arrV (G.2.2.1 0) n1 (fun j => .int (va_cpy (h.1 a0) (h.1 a) sp.toNatClampNeg dp.toNatClampNeg n.toNatClampNeg j))) lt
  have r2 : ((T.setVm vm').setCell a (arrV (G.2.2.1 0) n1 (fun j => .int (va_cpy (h.1 a0) (h.1 a) sp.toNatClampNeg dp.toNatClampNeg n.toNatClampNeg j)))).heap.size = H.size := by rw [size_setCell]; exact congrArg Array.size hT
  have r3 : ∀ q : Nat, q ≠ a → ((T.setVm vm').setCell a (arrV (G.2.2.1 0) n1 (fun j => .int (va_cpy (h.1 a0) (h.1 a) sp.toNatClampNeg dp.toNatClampNeg n.toNatClampNeg j)))).heap[q]? = H[q]? := fun q hq => by rw [heapAt_setCell_ne _ (Ne.symm hq)]; exact congrArg (fun x : Heap => x[q]?) hT
  have r4 := zAt.set (h := h) (h' := (zRow h.1 a (va_cpy (h.1 a0) (h.1 a) sp.toNatClampNeg dp.toNatClampNeg n.toNatClampNeg), h.2)) (e := .inl (G.2.2.1 0, n1, .inl (va_cpy (h.1 a0) (h.1 a) sp.toNatClampNeg dp.toNatClampNeg n.toNatClampNeg))) hA r2 r1 r3 rfl rfl (fun b hb => zCell_I (zRow_off hb)) (by
    rw [zCell_i (h := (zRow h.1 a (va_cpy (h.1 a0) (h.1 a) sp.toNatClampNeg dp.toNatClampNeg n.toNatClampNeg), h.2)) ha.2.2 (by decide) (by decide)]
    show Sum.inl (_, n1, Sum.inl (zRow h.1 a _ a)) = _
    rw [zRow_at])
  obtain ⟨t, t1, t2⟩ := K p l e R s m args below meth c _ _ cells slots la X r4 ⟨by rw [r2]; exact hS.1, fun q u1 u2 => (r3 q (fun u => u2 (by rw [u]; exact ha.1))).trans (hS.2.1 q u1 u2), fun q hq => (List.mem_append.mp hq).elim (hS.2.2 q) (fun u => by
    obtain ⟨_, -, rfl⟩ := List.mem_map.mp u
    exact ha.1)⟩ hc hs hl _ rfl X'
  exact ⟨t, go t t1, t2⟩
/-- a weaker end -/
theorem zC.mono {G : zG} {d kc ks : Nat} {M : zM} {vs : List Value} {h : zH} {Q Q' : Option Value → zH → Prop} (hC : zC G d M kc ks vs h Q) (hQ : ∀ r h', Q r h' → Q' r h') : zC G d M kc ks vs h Q' := by
  intro l hfl
  have h1 := hC l hfl
  unfold Met at h1 ⊢
  exact MetFree.mono h1 (fun _ _ q => q) (fun _ _ _ _ _ q => q) (fun a s o t _ q => ⟨⟨by obtain ⟨r, h', e1, e2, e3⟩ := q.1.1; exact ⟨r, h', e1, hQ r h' e2, e3⟩, q.1.2⟩, q.2⟩)
theorem zV.deep {G : zG} {d d' kc ks kc' ks' pc : Nat} {M : zM} {ls : List (Nat × Value)} {st : List Value} {h : zH} {Q : Option Value → zH → Prop} (h1 : d ≤ d') (h2 : kc ≤ kc') (h3 : ks ≤ ks') (K : zV G d M kc ks pc ls st h Q) : zV G d' M kc' ks' pc ls st h Q := by
  intro p l e R s m args below meth c H locs cells slots la X hA hS hc hs hl
  refine W.widen (k := cells + (kc' - kc)) (n := slots + (ks' - ks)) (by omega) (by omega) ?_
  obtain ⟨x1, x2, x3, x4, x5, x6, x7, x8, x9, x10, x11⟩ := X
  exact K p l e R s m args below meth c H locs _ _ la ⟨x1, x2, x3, x4, x5, x6, x7, x8, by omega, by omega, x11⟩ hA hS (by omega) (by omega) hl
theorem zSaload {G : zG} {d kc ks pc : Nat} {M : zM} {ls : List (Nat × Value)} {st : List Value} {h : zH} {Q : Option Value → zH → Prop} {i : Int32} (pc' : Nat) (hd : decode M.2.1 pc = .ok (.iaload, 1)) (hn : pc + 1 = pc') (hin : vp_in i G.2.2.2.2.2.2.1) (K : zV G d M kc ks pc' ls (.int (G.2.2.2.2.2.2.2 i.toNatClampNeg) :: st) h Q) : zV G d M kc ks pc ls (.int i :: .ref (G.2.2.2.2.2.1 3) :: st) h Q := by
  subst hn
  intro p l e R s m args below meth c H locs cells slots la X hA hS hc hs hl
  exact va_ti X.1 X.2.1 X.2.2.2.2.2.2.2.1.2.2.1.2.2.2.2.2.1 hS hin rfl hd (K p l e R s m args below meth c H locs cells slots la X hA hS hc hs hl)
theorem zSalen {G : zG} {d kc ks pc : Nat} {M : zM} {ls : List (Nat × Value)} {st : List Value} {h : zH} {Q : Option Value → zH → Prop} (pc' : Nat) (hd : decode M.2.1 pc = .ok (.arraylength, 1)) (hn : pc + 1 = pc') (K : zV G d M kc ks pc' ls (.int (nI G.2.2.2.2.2.2.1) :: st) h Q) : zV G d M kc ks pc ls (.ref (G.2.2.2.2.2.1 3) :: st) h Q := by
  subst hn
  intro p l e R s m args below meth c H locs cells slots la X hA hS hc hs hl
  exact va_tlen X.1 X.2.1 X.2.2.2.2.2.2.2.1.2.2.1.2.2.2.2.2.1 hS rfl hd (K p l e R s m args below meth c H locs cells slots la X hA hS hc hs hl)
