theorem zGetsT {G : zG} {d kc ks pc : Nat} {M : zM} {ls : List (Nat × Value)} {st : List Value} {h : zH} {Q : Option Value → zH → Prop} (i idx : Nat) (pc' : Nat) (hd : decode M.2.1 pc = .ok (.getstatic idx, 3)) (hn : pc + 3 = pc') (hi : i < 3) (hw : Cond.fieldLink M.1.cls idx RX10 (zTnm i) "[I" ∈ lw_tbl) (K : zV G d M kc ks pc' ls (.ref (G.2.2.2.2.2.1 i) :: st) h Q) : zV G d M kc ks pc ls st h Q := by
  subst hn
  intro p l e R s m args below meth c H locs cells slots la X hA hS hc hs hl
  exact va_gets X.1 X.2.1 (X.2.2.2.2.2.2.2.1.2.2.1.2.1 i hi).1 hS X.2.2.2.2.2.1 (X.2.2.2.2.2.2.2.1.1 _ _ hw rfl) (fun x q => q) hd (K p l e R s m args below meth c H locs cells slots la X hA hS hc hs hl)
theorem zTaload {G : zG} {d kc ks pc : Nat} {M : zM} {ls : List (Nat × Value)} {st : List Value} {h : zH} {Q : Option Value → zH → Prop} {i : Int32} (k : Nat) (pc' : Nat) (hd : decode M.2.1 pc = .ok (.iaload, 1)) (hn : pc + 1 = pc') (hk : k < 3) (hin : vp_in i (zTbl k).length) (K : zV G d M kc ks pc' ls (.int ((zTbl k).getD i.toNatClampNeg 0) :: st) h Q) : zV G d M kc ks pc ls (.int i :: .ref (G.2.2.2.2.2.1 k) :: st) h Q := by
  subst hn
  intro p l e R s m args below meth c H locs cells slots la X hA hS hc hs hl
  exact va_ti X.1 X.2.1 (X.2.2.2.2.2.2.2.1.2.2.1.2.1 k hk).2 hS hin rfl hd (K p l e R s m args below meth c H locs cells slots la X hA hS hc hs hl)
theorem zGetsC {G : zG} {d kc ks pc : Nat} {M : zM} {ls : List (Nat × Value)} {st : List Value} {h : zH} {Q : Option Value → zH → Prop} (idx : Nat) (pc' : Nat) (hd : decode M.2.1 pc = .ok (.getstatic idx, 3)) (hn : pc + 3 = pc') (hw : Cond.fieldLink M.1.cls idx "java/lang/String" "COMPACT_STRINGS" "Z" ∈ lw_tbl) (K : zV G d M kc ks pc' ls (.int 1 :: st) h Q) : zV G d M kc ks pc ls st h Q := by
  subst hn
  intro p l e R s m args below meth c H locs cells slots la X hA hS hc hs hl
  exact va_gets X.1 X.2.1 X.2.2.2.2.2.2.2.1.2.2.1.2.2.2.1 hS X.2.2.2.2.2.1 (X.2.2.2.2.2.2.2.1.1 _ _ hw rfl) (fun x q => q) hd (K p l e R s m args below meth c H locs cells slots la X hA hS hc hs hl)
theorem zGetsF {G : zG} {d kc ks pc : Nat} {M : zM} {ls : List (Nat × Value)} {st : List Value} {h : zH} {Q : Option Value → zH → Prop} (idx pc' : Nat) (hd : decode M.2.1 pc = .ok (.getstatic idx, 3)) (hn : pc + 3 = pc') (hw : Cond.fieldLink M.1.cls idx "jdk/internal/util/Preconditions" "SIOOBE_FORMATTER" "Ljava/util/function/BiFunction;" ∈ lw_tbl) (K : ∀ r : Option Nat, zV G d M kc ks pc' ls (va_rf r :: st) h Q) : zV G d M kc ks pc ls st h Q := by
  subst hn
  intro p l e R s m args below meth c H locs cells slots la X hA hS hc hs hl
  rcases X.2.2.2.2.2.2.2.1.2.2.1.2.2.2.2.1 with hZ | ⟨t, hZ⟩
  · exact va_gets X.1 X.2.1 hZ hS X.2.2.2.2.2.1 (X.2.2.2.2.2.2.2.1.1 _ _ hw rfl) (fun x q => q) hd (K none p l e R s m args below meth c H locs cells slots la X hA hS hc hs hl)
  · exact va_gets X.1 X.2.1 hZ hS X.2.2.2.2.2.1 (X.2.2.2.2.2.2.2.1.1 _ _ hw rfl) (fun x q => q) hd (K (some t) p l e R s m args below meth c H locs cells slots la X hA hS hc hs hl)
theorem zStrV {G : zG} {d kc ks pc : Nat} {M : zM} {ls : List (Nat × Value)} {st : List Value} {h : zH} {Q : Option Value → zH → Prop} (i idx : Nat) (pc' : Nat) (hd : decode M.2.1 pc = .ok (.getfield idx, 3)) (hn : pc + 3 = pc') (hi : i < 6) (hw : Cond.fieldLink M.1.cls idx "java/lang/String" "value" "[B" ∈ lw_tbl) (K : zV G d M kc ks pc' ls (.ref (G.2.2.2.2.1 i) :: st) h Q) : zV G d M kc ks pc ls (.ref (G.2.2.2.1 i) :: st) h Q := by
  subst hn
  intro p l e R s m args below meth c H locs cells slots la X hA hS hc hs hl
  exact vk_getf X.1 X.2.1 (X.2.2.2.2.2.2.2.1.2.2.1.1.1 i hi).2.2.1 hS X.2.2.2.2.2.1 (X.2.2.2.2.2.2.2.1.1 _ _ hw rfl) (fun x q => q) hd (K p l e R s m args below meth c H locs cells slots la X hA hS hc hs hl)
theorem zStrC {G : zG} {d kc ks pc : Nat} {M : zM} {ls : List (Nat × Value)} {st : List Value} {h : zH} {Q : Option Value → zH → Prop} (i idx : Nat) (pc' : Nat) (hd : decode M.2.1 pc = .ok (.getfield idx, 3)) (hn : pc + 3 = pc') (hi : i < 6) (hw : Cond.fieldLink M.1.cls idx "java/lang/String" "coder" "B" ∈ lw_tbl) (K : zV G d M kc ks pc' ls (.int 0 :: st) h Q) : zV G d M kc ks pc ls (.ref (G.2.2.2.1 i) :: st) h Q := by
  subst hn
  intro p l e R s m args below meth c H locs cells slots la X hA hS hc hs hl
  exact vk_getf X.1 X.2.1 (X.2.2.2.2.2.2.2.1.2.2.1.1.1 i hi).2.1 hS X.2.2.2.2.2.1 (X.2.2.2.2.2.2.2.1.1 _ _ hw rfl) (fun x q => q) hd (K p l e R s m args below meth c H locs cells slots la X hA hS hc hs hl)
theorem zStrL {G : zG} {d kc ks pc : Nat} {M : zM} {ls : List (Nat × Value)} {st : List Value} {h : zH} {Q : Option Value → zH → Prop} (i : Nat) (pc' : Nat) (hd : decode M.2.1 pc = .ok (.arraylength, 1)) (hn : pc + 1 = pc') (hi : i < 6) (K : zV G d M kc ks pc' ls (.int (nI (zStrN.getD i 0)) :: st) h Q) : zV G d M kc ks pc ls (.ref (G.2.2.2.2.1 i) :: st) h Q := by
  subst hn
  intro p l e R s m args below meth c H locs cells slots la X hA hS hc hs hl
  exact va_tlen X.1 X.2.1 (X.2.2.2.2.2.2.2.1.2.2.1.1.1 i hi).2.2.2 hS rfl hd (K p l e R s m args below meth c H locs cells slots la X hA hS hc hs hl)
theorem zStrAt {G : zG} {d kc ks pc : Nat} {M : zM} {ls : List (Nat × Value)} {st : List Value} {h : zH} {Q : Option Value → zH → Prop} {j : Int32} (i : Nat) (pc' : Nat) (hd : decode M.2.1 pc = .ok (.baload, 1)) (hn : pc + 1 = pc') (hi : i < 6) (hin : vp_in j (zStrN.getD i 0)) (K : zV G d M kc ks pc' ls (.int ((zStrB.getD i []).getD j.toNatClampNeg 0) :: st) h Q) : zV G d M kc ks pc ls (.int j :: .ref (G.2.2.2.2.1 i) :: st) h Q := by
  subst hn
  intro p l e R s m args below meth c H locs cells slots la X hA hS hc hs hl
  exact va_tb X.1 X.2.1 (X.2.2.2.2.2.2.2.1.2.2.1.1.1 i hi).2.2.2 hS hin rfl hd (K p l e R s m args below meth c H locs cells slots la X hA hS hc hs hl)
theorem zObjI {G : zG} {d kc ks pc : Nat} {M : zM} {ls : List (Nat × Value)} {st : List Value} {h : zH} {Q : Option Value → zH → Prop} {a : Nat} (idx pc' : Nat) (hd : decode M.2.1 pc = .ok (.invokespecial idx, 3)) (hn : pc + 3 = pc') (hw : Cond.methodLink M.1.cls idx objectInit ∈ lw_tbl) (hw2 : Cond.instanceMethod objectInit ∈ lw_tbl) (hw3 : Cond.code objectInit ⟨#[0xb1]⟩ 1 none ∈ lw_tbl) (hrest : (st.map fun v => v.category).sum ≤ 8) (K : zV G (d + 1) M kc ks pc' ls st h Q) : zV G (d + 1) M kc ks pc ls (.ref a :: st) h Q := by
  subst hn
  intro p l e R s m args below meth c H locs cells slots la X hA hS hc hs hl
  have h1 := X.2.2.2.2.2.2.2.2.1
  have h2 := X.2.2.2.2.2.2.2.2.2.1
  refine W.objInit X.1 X.2.1 X.2.2.2.2.2.1 (X.2.2.2.2.2.2.2.1.1 _ _ hw rfl) (X.2.2.2.2.2.2.2.1.1 _ _ hw2 rfl) (X.2.2.2.2.2.2.2.1.1 _ _ hw3 rfl) rfl (by rw [X.2.2.1]; exact hl.1) rfl hd (by omega) ?_ (K p l e R s m args below meth c H locs cells slots la X hA hS hc hs hl)
  show 2 * 0 + _ + 12 ≤ R.locals
  omega
theorem zMax {G : zG} {d kc ks pc : Nat} {M : zM} {ls : List (Nat × Value)} {st : List Value} {h : zH} {Q : Option Value → zH → Prop} {x y : Int32} (idx pc' : Nat) (hd : decode M.2.1 pc = .ok (.invokestatic idx, 3)) (hn : pc + 3 = pc') (hw : Cond.methodLink M.1.cls idx Lib.Math.max.name ∈ lw_tbl) (hw2 : Cond.static Lib.Math.max.name ∈ lw_tbl) (hw3 : Cond.initialized "java/lang/Math" ∈ lw_tbl) (hw4 : Cond.code Lib.Math.max.name Lib.Math.max.code 2 (some .int) ∈ lw_tbl) (hrest : (st.map fun v => v.category).sum ≤ 8) (K : zV G (d + 1) M kc ks pc' ls (.int (if x < y then y else x) :: st) h Q) : zV G (d + 1) M kc ks pc ls (.int y :: .int x :: st) h Q := by
  subst hn
  intro p l e R s m args below meth c H locs cells slots la X hA hS hc hs hl
  have h1 := X.2.2.2.2.2.2.2.2.1
  have h2 := X.2.2.2.2.2.2.2.2.2.1
  exact va_mmax X.1 X.2.1 (by rw [X.2.2.1]; exact hl.1.symm) X.2.2.2.2.2.1 (X.2.2.2.2.2.2.2.1.1 _ _ hw rfl) (X.2.2.2.2.2.2.2.1.1 _ _ hw2 rfl) (X.2.2.2.2.2.2.2.1.1 _ _ hw3 rfl) (X.2.2.2.2.2.2.2.1.1 _ _ hw4 rfl) (by omega) (by omega) (by omega) (by omega) hd (K p l e R s m args below meth c H locs cells slots la X hA hS hc hs hl)
theorem zMin {G : zG} {d kc ks pc : Nat} {M : zM} {ls : List (Nat × Value)} {st : List Value} {h : zH} {Q : Option Value → zH → Prop} {x y : Int32} (idx pc' : Nat) (hd : decode M.2.1 pc = .ok (.invokestatic idx, 3)) (hn : pc + 3 = pc') (hw : Cond.methodLink M.1.cls idx Lib.Math.min.name ∈ lw_tbl) (hw2 : Cond.static Lib.Math.min.name ∈ lw_tbl) (hw3 : Cond.initialized "java/lang/Math" ∈ lw_tbl) (hw4 : Cond.code Lib.Math.min.name Lib.Math.min.code 2 (some .int) ∈ lw_tbl) (hrest : (st.map fun v => v.category).sum ≤ 8) (K : zV G (d + 1) M kc ks pc' ls (.int (if y < x then y else x) :: st) h Q) : zV G (d + 1) M kc ks pc ls (.int y :: .int x :: st) h Q := by
  subst hn
  intro p l e R s m args below meth c H locs cells slots la X hA hS hc hs hl
  have h1 := X.2.2.2.2.2.2.2.2.1
  have h2 := X.2.2.2.2.2.2.2.2.2.1
  exact va_mmin X.1 X.2.1 (by rw [X.2.2.1]; exact hl.1.symm) X.2.2.2.2.2.1 (X.2.2.2.2.2.2.2.1.1 _ _ hw rfl) (X.2.2.2.2.2.2.2.1.1 _ _ hw2 rfl) (X.2.2.2.2.2.2.2.1.1 _ _ hw3 rfl) (X.2.2.2.2.2.2.2.1.1 _ _ hw4 rfl) (by omega) (by omega) (by omega) (by omega) hd (K p l e R s m args below meth c H locs cells slots la X hA hS hc hs hl)
theorem zAbs {G : zG} {d kc ks pc : Nat} {M : zM} {ls : List (Nat × Value)} {st : List Value} {h : zH} {Q : Option Value → zH → Prop} {x : Int32} (idx pc' : Nat) (hd : decode M.2.1 pc = .ok (.invokestatic idx, 3)) (hn : pc + 3 = pc') (hw : Cond.methodLink M.1.cls idx Lib.Math.abs.name ∈ lw_tbl) (hw2 : Cond.static Lib.Math.abs.name ∈ lw_tbl) (hw3 : Cond.initialized "java/lang/Math" ∈ lw_tbl) (hw4 : Cond.code Lib.Math.abs.name Lib.Math.abs.code 1 (some .int) ∈ lw_tbl) (hrest : (st.map fun v => v.category).sum ≤ 8) (K : zV G (d + 1) M kc ks pc' ls (.int (if 0 ≤ x then x else 0 - x) :: st) h Q) : zV G (d + 1) M kc ks pc ls (.int x :: st) h Q := by
  subst hn
  intro p l e R s m args below meth c H locs cells slots la X hA hS hc hs hl
  have h1 := X.2.2.2.2.2.2.2.2.1
  have h2 := X.2.2.2.2.2.2.2.2.2.1
  exact va_mabs X.1 X.2.1 (by rw [X.2.2.1]; exact hl.1.symm) X.2.2.2.2.2.1 (X.2.2.2.2.2.2.2.1.1 _ _ hw rfl) (X.2.2.2.2.2.2.2.1.1 _ _ hw2 rfl) (X.2.2.2.2.2.2.2.1.1 _ _ hw3 rfl) (X.2.2.2.2.2.2.2.1.1 _ _ hw4 rfl) (by omega) (by omega) (by omega) (by omega) hd (K p l e R s m args below meth c H locs cells slots la X hA hS hc hs hl)
theorem zMaxL {G : zG} {d kc ks pc : Nat} {M : zM} {ls : List (Nat × Value)} {st : List Value} {h : zH} {Q : Option Value → zH → Prop} {x y : Int64} (idx pc' : Nat) (hd : decode M.2.1 pc = .ok (.invokestatic idx, 3)) (hn : pc + 3 = pc') (hw : Cond.methodLink M.1.cls idx Lib.MathLoose.max_long.x ∈ lw_tbl) (hw2 : Cond.static Lib.MathLoose.max_long.x ∈ lw_tbl) (hw3 : Cond.initialized "java/lang/Math" ∈ lw_tbl) (hw4 : Cond.code Lib.MathLoose.max_long.x Lib.MathLoose.max_long.code 4 (some .long) ∈ lw_tbl) (hrest : (st.map fun v => v.category).sum ≤ 8) (K : zV G (d + 1) M kc ks pc' ls (.long (if y < x then x else y) :: st) h Q) : zV G (d + 1) M kc ks pc ls (.long y :: .long x :: st) h Q := by
  subst hn
  intro p l e R s m args below meth c H locs cells slots la X hA hS hc hs hl
  have h1 := X.2.2.2.2.2.2.2.2.1
  have h2 := X.2.2.2.2.2.2.2.2.2.1
  exact va_mmax_long X.1 X.2.1 (by rw [X.2.2.1]; exact hl.1.symm) X.2.2.2.2.2.1 (X.2.2.2.2.2.2.2.1.1 _ _ hw rfl) (X.2.2.2.2.2.2.2.1.1 _ _ hw2 rfl) (X.2.2.2.2.2.2.2.1.1 _ _ hw3 rfl) (X.2.2.2.2.2.2.2.1.1 _ _ hw4 rfl) (by omega) (by omega) (by omega) (by omega) hd (K p l e R s m args below meth c H locs cells slots la X hA hS hc hs hl)
theorem zMinL {G : zG} {d kc ks pc : Nat} {M : zM} {ls : List (Nat × Value)} {st : List Value} {h : zH} {Q : Option Value → zH → Prop} {x y : Int64} (idx pc' : Nat) (hd : decode M.2.1 pc = .ok (.invokestatic idx, 3)) (hn : pc + 3 = pc') (hw : Cond.methodLink M.1.cls idx Lib.MathLoose.min_long.x ∈ lw_tbl) (hw2 : Cond.static Lib.MathLoose.min_long.x ∈ lw_tbl) (hw3 : Cond.initialized "java/lang/Math" ∈ lw_tbl) (hw4 : Cond.code Lib.MathLoose.min_long.x Lib.MathLoose.min_long.code 4 (some .long) ∈ lw_tbl) (hrest : (st.map fun v => v.category).sum ≤ 8) (K : zV G (d + 1) M kc ks pc' ls (.long (if y < x then y else x) :: st) h Q) : zV G (d + 1) M kc ks pc ls (.long y :: .long x :: st) h Q := by
  subst hn
  intro p l e R s m args below meth c H locs cells slots la X hA hS hc hs hl
  have h1 := X.2.2.2.2.2.2.2.2.1
  have h2 := X.2.2.2.2.2.2.2.2.2.1
  exact va_mmin_long X.1 X.2.1 (by rw [X.2.2.1]; exact hl.1.symm) X.2.2.2.2.2.1 (X.2.2.2.2.2.2.2.1.1 _ _ hw rfl) (X.2.2.2.2.2.2.2.1.1 _ _ hw2 rfl) (X.2.2.2.2.2.2.2.1.1 _ _ hw3 rfl) (X.2.2.2.2.2.2.2.1.1 _ _ hw4 rfl) (by omega) (by omega) (by omega) (by omega) hd (K p l e R s m args below meth c H locs cells slots la X hA hS hc hs hl)
section ZCPY
variable {p : Program} {l : Launch} {e : Env} {R : Room} {s : State} {m : MethodId} {args : Array Value} {below : List Frame} {meth : Method} {c : Code} {H : Heap} {locs : List Loc} {cells slots : Nat} {Q : State → Prop}
variable {cc : ByteArray} {pc : Nat} {ls : Array Slot} {rest : List Value} {D : va_G} {cl : List vw_C} {A : Nat → Prop} {a : Nat} {tys : List (ClassId × FieldType)} {ws : va_W} {H0 : Heap}
theorem zw_copyi {cc : ByteArray} (hexec : p.tables.exec = Jvm.exec) (hb : c.code = cc) (hml : c.maxLocals = ls.size) {own : String} {index : Nat} (hown : s.vm.findClass own = some m.cls) (hlink : (Cond.methodLink own index arraycopyName).before args s = true) (hnat : (Cond.native arraycopyName).before args s = true) (hstat : (Cond.static arraycopyName).before args s = true) (hini : (Cond.initialized "java/lang/System").before args s = true)
    (hK : va_K D cl tys s) (hP : va_P D cl ws H) (hD : va_D A ws) (hS : va_S A H0 H locs) (q0 q1 t0 t1 : Nat) {a0 : Nat} {c0 c1 : ClassId} {n0 n1 : Nat} {f g : Nat → Int32} {ty : FieldType} (ha0 : ws[q0]? = some (a0, .inl (c0, n0, .inl f))) (ha1 : ws[q1]? = some (a, .inl (c1, n1, .inl g))) (ht0 : tys[t0]? = some (c0, ty)) (ht1 : tys[t1]? = some (c1, ty)) (hprim : refKind ty = false)
    {sp dp n : Int32} (h1 : ¬ sp < 0) (h2 : ¬ dp < 0) (h3 : ¬ n < 0) (h4 : sp.toNatClampNeg + n.toNatClampNeg ≤ n0) (h5 : dp.toNatClampNeg + n.toNatClampNeg ≤ n1) (hfit : ∀ i, i < n.toNatClampNeg → fits ty (.int (f (sp.toNatClampNeg + i))) = true)
    (hframes : 1 ≤ R.frames) (hlocals : (rest.map fun v => v.category).sum + (nativeFrameWords "java/lang/System" "arraycopy" 5 + 11) ≤ R.locals) (hdg : decode cc pc = .ok (.invokestatic index, 3))
    (kk : ∀ (H1 : Heap) (locs1 : List Loc), va_P D cl (ws.set q1 (a, .inl (c1, n1, .inl (va_cpy f g sp.toNatClampNeg dp.toNatClampNeg n.toNatClampNeg)))) H1 → va_D A (ws.set q1 (a, .inl (c1, n1, .inl (va_cpy f g sp.toNatClampNeg dp.toNatClampNeg n.toNatClampNeg)))) → va_S A H0 H1 locs1 → H1.size = H.size → (∀ q : Nat, q ≠ a → H1[q]? = H[q]?) → W p l e R s m args below meth c H1 locs1 cells slots Q (F0 m (pc + 3) ls rest)) : W p l e R s m args below meth c H locs cells slots Q (F0 m pc ls (.int n :: .int dp :: .ref a :: .int sp :: .ref a0 :: rest)) := by
  have nn : ∀ z : Int32, ¬ z < 0 → z.toInt = (z.toNatClampNeg : Int) := by
    intro z hz
    have hz0 : (0 : Int) ≤ z.toInt := by
      have := Int32.not_lt.mp hz
      simpa using Int32.le_iff_toInt_le.mp this
    show z.toInt = ((z.toInt.toNat : Nat) : Int)
    omega
  intro T hT X
  have hc0 : H[a0]? = some (vp_cell c0 (n0, .inl f)) := hP q0 _ ha0
  have hc1 : H[a]? = some (vp_cell c1 (n1, .inl g)) := hP q1 _ ha1
  obtain ⟨-, k0, hk0, cm0, hkk0⟩ := (hK.2 t0 _ ht0).1 n0 (fun j => .int (f j))
  obtain ⟨-, k1, hk1, cm1, hkk1⟩ := (hK.2 t1 _ ht1).1 n1 (fun j => .int (g j))
  obtain ⟨vm', X', step⟩ := X.arraycopy hexec hown hlink hnat hstat hini (src := a0) (dst := a) (cs := vp_cell c0 (n0, .inl f)) (cd := vp_cell c1 (n1, .inl g)) (srcPos := sp) (destPos := dp) (n := n) (by rw [hT]; exact hc0) (by rw [hT]; exact hc1)
    (fun _ h => by cases h) (fun _ h => by cases h) (fun h => by cases h) (fun h => by cases h) hk0 hk1 hkk0 hkk1 (by simp [hprim]) h1 h2 h3
    (by rw [nn sp h1, nn n h3]; show ¬ _ > ((arrV c0 n0 (fun j => .int (f j))).slots.size : Int); rw [arrV_size]; omega)
    (by rw [nn dp h2, nn n h3]; show ¬ _ > ((arrV c1 n1 (fun j => .int (g j))).slots.size : Int); rw [arrV_size]; omega)
    (fun vm₁ _ i hi => by
      have e : (vp_cell c0 (n0, .inl f)).slots.getD (sp.toNatClampNeg + i) .null = .int (f (sp.toNatClampNeg + i)) := by
        show (arrV c0 n0 (fun j => .int (f j))).slots.getD _ _ = _
        rw [Array.getD_eq_getD_getElem?, arrV_read _ _ (by omega)]
        rfl
      refine ⟨?_, ?_⟩
      · rw [e]
        exact hfit i hi
      · rw [e]
        exact trivial)
    (g := F0 m pc ls (.int n :: .int dp :: .ref a :: .int sp :: .ref a0 :: rest)) rfl (by rw [hml]) (rest := rest) rfl (by rw [hb]; exact hdg) hframes (by show 2 * 0 + _ + _ ≤ _; omega)
  have e1 : copied (vp_cell c0 (n0, .inl f)) (vp_cell c1 (n1, .inl g)) sp dp n = vp_cell c1 (n1, .inl (va_cpy f g sp.toNatClampNeg dp.toNatClampNeg n.toNatClampNeg)) := va_copied (fun z => .int z) c0 c1 f g h4
  rw [e1] at X' step
  have hl : a < H.size := (Array.getElem?_eq_some_iff.mp hc1).1
  have hheap : ((T.setVm vm').setCell a (vp_cell c1 (n1, .inl (va_cpy f g sp.toNatClampNeg dp.toNatClampNeg n.toNatClampNeg)))).heap = H.setIfInBounds a (vp_cell c1 (n1, .inl (va_cpy f g sp.toNatClampNeg dp.toNatClampNeg n.toNatClampNeg))) := by rw [← hT]; rfl
  have oq : ∀ q : Nat, q ≠ a → (H.setIfInBounds a (vp_cell c1 (n1, .inl (va_cpy f g sp.toNatClampNeg dp.toNatClampNeg n.toNatClampNeg))))[q]? = H[q]? := fun q hq => by simp [Array.getElem?_setIfInBounds, Ne.symm hq]
  obtain ⟨t, a1, b1⟩ := kk _ _ (hP.set hD ha1 (show (H.setIfInBounds a _)[a]? = some _ by simp [Array.getElem?_setIfInBounds, hl]) oq) (hD.set ha1) ⟨by simp; exact hS.1, fun q g1 g2 => by
      rw [oq q (fun e => g2 (by rw [e]; exact hD.2 q1 _ ha1))]
      exact hS.2.1 q g1 g2, fun q hq => by
      rcases List.mem_append.mp hq with h | h
      · exact hS.2.2 q h
      · obtain ⟨z, -, hz⟩ := List.mem_map.mp h
        rw [← hz]
        exact hD.2 q1 _ ha1⟩ (by simp) oq _ hheap X'
  exact ⟨t, step t a1, b1⟩
end ZCPY
/-- one row changed as a whole -/
def zRow {α : Type} (f : Nat → Nat → α) (a : Nat) (g : Nat → α) : Nat → Nat → α := fun b => if b = a then g else f b
theorem zRow_off {α : Type} {f : Nat → Nat → α} {a b : Nat} {g : Nat → α} (h : b ≠ a) : zRow f a g b = f b := if_neg h
theorem zRow_at {α : Type} {f : Nat → Nat → α} {a : Nat} {g : Nat → α} : zRow f a g a = g := if_pos rfl
theorem zNfw : nativeFrameWords "java/lang/System" "arraycopy" 5 ≤ 40 := by decide +kernel
theorem zCopy {G : zG} {d kc ks pc : Nat} {M : zM} {ls : List (Nat × Value)} {st : List Value} {h : zH} {Q : Option Value → zH → Prop} {a0 a : Nat} {sp dp n : Int32} (idx n0 n1 pc' : Nat) (hd : decode M.2.1 pc = .ok (.invokestatic idx, 3)) (hn : pc + 3 = pc') (hw : Cond.methodLink M.1.cls idx arraycopyName ∈ lw_tbl) (hw2 : Cond.native arraycopyName ∈ lw_tbl) (hw3 : Cond.static arraycopyName ∈ lw_tbl) (hw4 : Cond.initialized "java/lang/System" ∈ lw_tbl) (hrest : (st.map fun v => v.category).sum ≤ 8) (ha0 : zAr G h a0 32 n0) (ha : zAr G h a 32 n1) (h1 : ¬ sp < 0) (h2 : ¬ dp < 0) (h3 : ¬ n < 0) (h4 : sp.toNatClampNeg + n.toNatClampNeg ≤ n0) (h5 : dp.toNatClampNeg + n.toNatClampNeg ≤ n1) (K : zV G (d + 1) M kc ks pc' ls st (zRow h.1 a (va_cpy (h.1 a0) (h.1 a) sp.toNatClampNeg dp.toNatClampNeg n.toNatClampNeg), h.2) Q) : zV G (d + 1) M kc ks pc ls (.int n :: .int dp :: .ref a :: .int sp :: .ref a0 :: st) h Q := by
  subst hn
  intro p l e R s m args below meth c H locs cells slots la X hA hS hc hs hl
  have q1 := X.2.2.2.2.2.2.2.2.1
  have q2 := X.2.2.2.2.2.2.2.2.2.1
  have q3 := zNfw
  have fin : ∀ (H1 : Heap) (locs1 : List Loc), va_at G.2.1 zCl (a, .inl (G.2.2.1 0, n1, .inl (va_cpy (h.1 a0) (h.1 a) sp.toNatClampNeg dp.toNatClampNeg n.toNatClampNeg))) H1 → va_S (zA G) s.heap H1 locs1 → H1.size = H.size → (∀ q : Nat, q ≠ a → H1[q]? = H[q]?) → W p l e R s m args below meth c H1 locs1 cells slots (MQ below (zQc G Q) args s R.cells R.slots (zA G)) (F0 m (pc + 3) la st) := by
    intro H1 locs1 hv hS1 hz hoq
    refine K p l e R s m args below meth c H1 locs1 cells slots la X (zAt.set (h := h) hA hz hv hoq rfl rfl (fun b hb => zCell_I (zRow_off hb)) ?_) hS1 hc hs hl
    rw [zCell_i (h := (zRow h.1 a (va_cpy (h.1 a0) (h.1 a) sp.toNatClampNeg dp.toNatClampNeg n.toNatClampNeg), h.2)) ha.2.2 (by decide) (by decide)]
    show Sum.inl (_, n1, Sum.inl (zRow h.1 a _ a)) = _
    rw [zRow_at]
  have c0 := zCell_i (G := G) (h := h) ha0.2.2 (by decide) (by decide)
  have c1 := zCell_i (G := G) (h := h) ha.2.2 (by decide) (by decide)
  by_cases e0 : a0 = a
  · subst e0
    obtain rfl : n0 = n1 := by have q := ha0.2.2.symm.trans ha.2.2; cases q; rfl
    refine zw_copyi (D := G.2.1) (cl := zCl) X.1 X.2.1 (by rw [X.2.2.1]; exact hl.1.symm) X.2.2.2.2.2.1 (X.2.2.2.2.2.2.2.1.1 _ _ hw rfl) (X.2.2.2.2.2.2.2.1.1 _ _ hw2 rfl) (X.2.2.2.2.2.2.2.1.1 _ _ hw3 rfl) (X.2.2.2.2.2.2.2.1.1 _ _ hw4 rfl) X.2.2.2.2.2.2.2.1.2.2.2.1 (hA.one ha.1 ha.2.1 (by rw [ha.2.2]; simp)) (zD1 ha.1) hS 0 0 0 0 (c0 := G.2.2.1 0) (c1 := G.2.2.1 0) (n0 := n0) (n1 := n0) (f := h.1 a0) (g := h.1 a0) (ty := .int) (by show some (a0, zCell G h a0) = _; rw [c0]) (by show some (a0, zCell G h a0) = _; rw [c0]) rfl rfl rfl h1 h2 h3 h4 h5 (fun _ _ => rfl) (by omega) (by omega) hd (fun H1 locs1 hP1 hD1 hS1 hz hoq => ?_)
    exact fin H1 locs1 (hP1 0 _ rfl) hS1 hz hoq
  · refine zw_copyi (D := G.2.1) (cl := zCl) X.1 X.2.1 (by rw [X.2.2.1]; exact hl.1.symm) X.2.2.2.2.2.1 (X.2.2.2.2.2.2.2.1.1 _ _ hw rfl) (X.2.2.2.2.2.2.2.1.1 _ _ hw2 rfl) (X.2.2.2.2.2.2.2.1.1 _ _ hw3 rfl) (X.2.2.2.2.2.2.2.1.1 _ _ hw4 rfl) X.2.2.2.2.2.2.2.1.2.2.2.1 (hA.two ha0.1 ha0.2.1 (by rw [ha0.2.2]; simp) ha.1 ha.2.1 (by rw [ha.2.2]; simp)) (zD2 ha0.1 ha.1 e0) hS 0 1 0 0 (c0 := G.2.2.1 0) (c1 := G.2.2.1 0) (n0 := n0) (n1 := n1) (f := h.1 a0) (g := h.1 a) (ty := .int) (by show some (a0, zCell G h a0) = _; rw [c0]) (by show some (a, zCell G h a) = _; rw [c1]) rfl rfl rfl h1 h2 h3 h4 h5 (fun _ _ => rfl) (by omega) (by omega) hd (fun H1 locs1 hP1 hD1 hS1 hz hoq => ?_)
    exact fin H1 locs1 (hP1 1 _ rfl) hS1 hz hoq
/-- a weaker end -/
theorem zC.mono {G : zG} {d kc ks : Nat} {M : zM} {vs : List Value} {h : zH} {Q Q' : Option Value → zH → Prop} (hC : zC G d M kc ks vs h Q) (hQ : ∀ r h', Q r h' → Q' r h') : zC G d M kc ks vs h Q' := by
  intro l hfl
  have h1 := hC l hfl
  unfold Met at h1 ⊢
  exact MetFree.mono h1 (fun _ _ q => q) (fun _ _ _ _ _ q => q) (fun a s o t _ q => ⟨⟨by obtain ⟨r, h', e1, e2, e3⟩ := q.1.1; exact ⟨r, h', e1, hQ r h' e2, e3⟩, q.1.2⟩, q.2⟩)
theorem zV.deep {G : zG} {d d' kc ks kc' ks' pc : Nat} {M : zM} {ls : List (Nat × Value)} {st : List Value} {h : zH} {Q : Option Value → zH → Prop} (h1 : d ≤ d') (h2 : kc ≤ kc') (h3 : ks ≤ ks') (K : zV G d M kc ks pc ls st h Q) : zV G d' M kc' ks' pc ls st h Q := by
  intro p l e R s m args below meth c H locs cells slots la X hA hS hc hs hl
  refine W.widen (k := cells + (kc' - kc)) (n := slots + (ks' - ks)) (by omega) (by omega) ?_
  obtain ⟨x1, x2, x3, x4, x5, x6, x7, x8, x9, x10, x11⟩ := X
  exact K p l e R s m args below meth c H locs _ _ la ⟨x1, x2, x3, x4, x5, x6, x7, x8, by omega, by omega, x11⟩ hA hS (by omega) (by omega) hl
theorem zSaload {G : zG} {d kc ks pc : Nat} {M : zM} {ls : List (Nat × Value)} {st : List Value} {h : zH} {Q : Option Value → zH → Prop} {i : Int32} (pc' : Nat) (hd : decode M.2.1 pc = .ok (.iaload, 1)) (hn : pc + 1 = pc') (hin : vp_in i G.2.2.2.2.2.2.1) (K : zV G d M kc ks pc' ls (.int (G.2.2.2.2.2.2.2 i.toNatClampNeg) :: st) h Q) : zV G d M kc ks pc ls (.int i :: .ref (G.2.2.2.2.2.1 3) :: st) h Q := by
  subst hn
  intro p l e R s m args below meth c H locs cells slots la X hA hS hc hs hl
  exact va_ti X.1 X.2.1 X.2.2.2.2.2.2.2.1.2.2.1.2.2.2.2.2.1 hS hin rfl hd (K p l e R s m args below meth c H locs cells slots la X hA hS hc hs hl)
theorem zSalen {G : zG} {d kc ks pc : Nat} {M : zM} {ls : List (Nat × Value)} {st : List Value} {h : zH} {Q : Option Value → zH → Prop} (pc' : Nat) (hd : decode M.2.1 pc = .ok (.arraylength, 1)) (hn : pc + 1 = pc') (K : zV G d M kc ks pc' ls (.int (nI G.2.2.2.2.2.2.1) :: st) h Q) : zV G d M kc ks pc ls (.ref (G.2.2.2.2.2.1 3) :: st) h Q := by
  subst hn
  intro p l e R s m args below meth c H locs cells slots la X hA hS hc hs hl
  exact va_tlen X.1 X.2.1 X.2.2.2.2.2.2.2.1.2.2.1.2.2.2.2.2.1 hS rfl hd (K p l e R s m args below meth c H locs cells slots la X hA hS hc hs hl)
