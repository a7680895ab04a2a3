/-! two of the kit's rows again, with the heap's size -/
section ZPUT
variable {p : Program} {l : Launch} {e : Env} {R : Room} {s : State} {m : MethodId} {args : Array Value} {below : List Frame} {meth : Method} {c : Code} {H : Heap} {locs : List Loc} {cells slots : Nat} {Q : State → Prop}
variable {cc : ByteArray} {pc : Nat} {ls : Array Slot} {rest : List Value} {D : va_G} {cl : List vw_C} {A : Nat → Prop} {a : Nat} {tys : List (ClassId × FieldType)} {ws : va_W} {H0 : Heap}
theorem zw_put (hexec : p.tables.exec = Jvm.exec) (hb : c.code = cc) {own ref C : String} {T : u_T} {N ci index : Nat} {Ts : List Cond} (hts : ∀ w ∈ Ts, w.before args s = true) (hin : ∀ w ∈ u_ws C T N, w ∈ Ts) (ty0 : Nat → FieldType) (hty : ∀ k, k < N → parseFieldDescriptor (T k).2.2.1 = some (ty0 k)) (hnm : ∀ a, a < N → ∀ b, b < N → a ≠ b → (T a).2.1 ≠ (T b).2.1) (hown : s.vm.findClass own = some m.cls) (hK : va_K D cl tys s) (hP : va_P D cl ws H) (hD : va_D A ws) (hS0 : va_S A H0 H locs) (q0 : Nat) {fs : List Value} (he : ws[q0]? = some (a, .inr (ci, fs))) (hc : cl[ci]? = some (C, T, N)) (k : Nat) (hk : k < N) (hlink : (Cond.fieldLink own index ref (T k).2.1 (T k).2.2.1).before args s = true) (hsame : ∀ x, s.fieldFound? (T k).1 (T k).2.1 (T k).2.2.1 = some x → s.fieldFound? ref (T k).2.1 (T k).2.2.1 = some x) (hfin : (T k).2.2.2 = false) {ty : FieldType} {v : Value} (hd : parseFieldDescriptor (T k).2.2.1 = some ty) (hn : narrow ty v = v) (hfit : fits ty v = true) (hl : k < fs.length)
    (hdg : decode cc pc = .ok (.putfield index, 3)) (kk : ∀ (H1 : Heap) (locs1 : List Loc), va_P D cl (ws.set q0 (a, .inr (ci, fs.set k v))) H1 → va_D A (ws.set q0 (a, .inr (ci, fs.set k v))) → va_S A H0 H1 locs1 → H1.size = H.size → (∀ q : Nat, q ≠ a → H1[q]? = H[q]?) → W p l e R s m args below meth c H1 locs1 cells slots Q (F0 m (pc + 3) ls rest)) : W p l e R s m args below meth c H locs cells slots Q (F0 m pc ls (v :: .ref a :: rest)) := by
  have hap := va_apart (own := own) hts hin ty0 hty hnm hK hc
  obtain ⟨r, h1, cell, q1, q2, q3, q4⟩ := hP q0 _ he
  have hr : r = (C, T, N) := Option.some.inj (h1.symm.trans hc)
  subst hr
  obtain ⟨hS, hfc, kC, hkC, hkind⟩ := hK.1 ci _ hc
  obtain ⟨cf, kf, fi, f, hi, hsl⟩ := hS k hk
  have hlay := hts _ (hin _ (u_in_lay hk))
  unfold u_lay at hlay
  rw [if_neg (by rw [hfin]; decide)] at hlay
  have hst := (u_facts hfc hkC (u_lays hts hin hk) hi).1
  have h6 := u_store hfc hkC hkind hlay hi hd hn hfit
  refine W.putK hexec hb (f := f) ⟨hown, hlink, ⟨_, _, _, hsame _ hi⟩, hst⟩ (by rw [q2]; exact h6) q1 q3 (by rw [hsl]; exact k2_hasslot (q4 k hk)) rfl rfl hdg fun H' e1 e2 e3 => ?_
  rw [hsl] at e1 ⊢
  exact kk H' _ (hP.set hD he ⟨_, hc, t_OB.to (V := updV (vp_V fs) k v) ⟨_, e1, q2, q3, t_set q4 hap hk v⟩ (fun j _ => vp_updV_set hl v j)⟩ e3) (hD.set he) (hS0.put e2 e3 (hD.2 q0 _ he)) e2 e3
theorem zw_putF (hexec : p.tables.exec = Jvm.exec) (hb : c.code = cc) {own ref C : String} {T : u_T} {N ci index : Nat} {Ts : List Cond} (hts : ∀ w ∈ Ts, w.before args s = true) (hin : ∀ w ∈ u_ws C T N, w ∈ Ts) (ty0 : Nat → FieldType) (hty : ∀ k, k < N → parseFieldDescriptor (T k).2.2.1 = some (ty0 k)) (hnm : ∀ a, a < N → ∀ b, b < N → a ≠ b → (T a).2.1 ≠ (T b).2.1) (hown : s.vm.findClass own = some m.cls) (hK : va_K D cl tys s) (hP : va_P D cl ws H) (hD : va_D A ws) (hS0 : va_S A H0 H locs) (q0 : Nat) {fs : List Value} (he : ws[q0]? = some (a, .inr (ci, fs))) (hc : cl[ci]? = some (C, T, N)) (k : Nat) (hk : k < N) (hlink : (Cond.fieldLink own index ref (T k).2.1 (T k).2.2.1).before args s = true) (hsame : ∀ x, s.fieldFound? (T k).1 (T k).2.1 (T k).2.2.1 = some x → s.fieldFound? ref (T k).2.1 (T k).2.2.1 = some x) (hfin : (T k).2.2.2 = true) (hin2 : meth.name = "<init>") (hdecl : (T k).1 = own) {ty : FieldType} {v : Value} (hd : parseFieldDescriptor (T k).2.2.1 = some ty) (hn : narrow ty v = v) (hfit : fits ty v = true) (hl : k < fs.length)
    (hdg : decode cc pc = .ok (.putfield index, 3)) (kk : ∀ (H1 : Heap) (locs1 : List Loc), va_P D cl (ws.set q0 (a, .inr (ci, fs.set k v))) H1 → va_D A (ws.set q0 (a, .inr (ci, fs.set k v))) → va_S A H0 H1 locs1 → H1.size = H.size → (∀ q : Nat, q ≠ a → H1[q]? = H[q]?) → W p l e R s m args below meth c H1 locs1 cells slots Q (F0 m (pc + 3) ls rest)) : W p l e R s m args below meth c H locs cells slots Q (F0 m pc ls (v :: .ref a :: rest)) := by
  have hap := va_apart (own := own) hts hin ty0 hty hnm hK hc
  obtain ⟨r, h1, cell, q1, q2, q3, q4⟩ := hP q0 _ he
  have hr : r = (C, T, N) := Option.some.inj (h1.symm.trans hc)
  subst hr
  obtain ⟨hS, hfc, kC, hkC, hkind⟩ := hK.1 ci _ hc
  obtain ⟨cf, kf, fi, f, hi, hsl⟩ := hS k hk
  have hlay := hts _ (hin _ (u_in_lay hk))
  unfold u_lay at hlay
  rw [if_pos hfin] at hlay
  have hst := (u_facts hfc hkC (u_lays hts hin hk) hi).1
  have hcf : m.cls = cf := by
    obtain ⟨_, _, c', _, _, _, -, -, hf', -, -, -, hown2, -⟩ := Cond.laysFinal_spec hlay
    have e1 : c' = cf := by have := hi.symm.trans hf'; simp at this; exact this.1.symm
    rw [hdecl] at hown2
    rw [← e1]; exact Option.some.inj (hown.symm.trans hown2)
  have h6 := u_fits hfc hkC hkind (Or.inr hlay) hi hd hn hfit
  refine W.putFinK hexec hb hown hlink (hsame _ hi) hst hcf hin2 (by rw [q2]; exact h6) q1 q3 (by rw [hsl]; exact k2_hasslot (q4 k hk)) rfl rfl hdg fun H' e1 e2 e3 => ?_
  rw [hsl] at e1 ⊢
  exact kk H' _ (hP.set hD he ⟨_, hc, t_OB.to (V := updV (vp_V fs) k v) ⟨_, e1, q2, q3, t_set q4 hap hk v⟩ (fun j _ => vp_updV_set hl v j)⟩ e3) (hD.set he) (hS0.put e2 e3 (hD.2 q0 _ he)) e2 e3
end ZPUT
/-- the function, changed at one place -/
def zU {α : Type} (f : Nat → Nat → α) (a k : Nat) (v : α) : Nat → Nat → α := fun b j => if b = a then (if j = k then v else f b j) else f b j
theorem zU_self {α : Type} (f : Nat → Nat → α) (a k : Nat) (v : α) : zU f a k v a k = v := by simp [zU]
theorem zU_ne {α : Type} {f : Nat → Nat → α} {a k b j : Nat} {v : α} (h : ¬ (b = a ∧ j = k)) : zU f a k v b j = f b j := by
  unfold zU
  by_cases h1 : b = a
  · rw [if_pos h1, if_neg (fun h2 => h ⟨h1, h2⟩)]
  · rw [if_neg h1]
theorem zU_off {α : Type} {f : Nat → Nat → α} {a k b : Nat} {v : α} (h : b ≠ a) : zU f a k v b = f b := by
  funext j
  simp [zU, h]
def zOb (G : zG) (h : zH) (a ci : Nat) : Prop := G.1 ≤ a ∧ a < h.2.2.2.2 ∧ (h.2.2.2.1 a).1 = ci
def zAr (G : zG) (h : zH) (a kd n : Nat) : Prop := G.1 ≤ a ∧ a < h.2.2.2.2 ∧ h.2.2.2.1 a = (kd, n)
def zCls (ci : Nat) (C : String) (T : u_T) (N : Nat) (ty : Nat → FieldType) : Prop :=
  zCl[ci]? = some (C, T, N) ∧ ci < 13 ∧ (∀ w ∈ u_ws C T N, w ∈ lw_tbl ∧ goodWord w = true) ∧ (∀ k, k < N → parseFieldDescriptor (T k).2.2.1 = some (ty k)) ∧ (∀ a, a < N → ∀ b, b < N → a ≠ b → (T a).2.1 ≠ (T b).2.1) ∧ zTy ci = zTys ty N
theorem zIn {ws : List Cond} (ps : List Nat) (hp : ws = ps.filterMap (fun i => lw_tbl[i]?)) (hg : ws.all goodWord = true) : ∀ w ∈ ws, w ∈ lw_tbl ∧ goodWord w = true := by
  intro w hw
  refine ⟨?_, List.all_eq_true.mp hg w hw⟩
  rw [hp] at hw
  obtain ⟨i, -, hi⟩ := List.mem_filterMap.mp hw
  exact List.mem_of_getElem? hi
-- the world, a cell at a time
theorem zAt.one {G : zG} {h : zH} {H : Heap} {a : Nat} (hA : zAt G h H) (h1 : G.1 ≤ a) (h2 : a < h.2.2.2.2) (h3 : (h.2.2.2.1 a).1 ≠ 99) : va_P G.2.1 zCl [(a, zCell G h a)] H := by
  intro k q hk
  have hz : k < 1 := (List.getElem?_eq_some_iff.mp hk).1
  rw [show k = 0 by omega] at hk
  cases hk
  exact hA.1 a h1 h2 h3
theorem zD1 {G : zG} {a : Nat} {e : va_E} (h1 : G.1 ≤ a) : va_D (zA G) [(a, e)] := by
  have key : ∀ (k : Nat) (q : Nat × va_E), ([(a, e)] : va_W)[k]? = some q → k = 0 ∧ q.1 = a := by
    intro k q hk
    have hz : k < 1 := (List.getElem?_eq_some_iff.mp hk).1
    have h0 : k = 0 := by omega
    subst h0
    cases hk
    exact ⟨rfl, rfl⟩
  refine ⟨fun i j x y hi hj _ => ?_, fun k q hk => ?_⟩
  · rw [(key i x hi).1, (key j y hj).1]
  · rw [(key k q hk).2]; exact h1
/-- the world, changed at one cell -/
theorem zAt.set {G : zG} {h h' : zH} {H H1 : Heap} {a : Nat} {e : va_E} (hA : zAt G h H) (hz : H1.size = H.size) (he : va_at G.2.1 zCl (a, e) H1) (oq : ∀ q : Nat, q ≠ a → H1[q]? = H[q]?) (hn : h'.2.2.2.2 = h.2.2.2.2) (hk : h'.2.2.2.1 = h.2.2.2.1) (ho : ∀ b, b ≠ a → zCell G h' b = zCell G h b) (hc : zCell G h' a = e) : zAt G h' H1 := by
  subst hc
  refine ⟨fun b h1 h2 h3 => ?_, by rw [hz, hn]; exact hA.2.1, by rw [hn]; exact hA.2.2⟩
  by_cases hb : b = a
  · subst hb; exact he
  · rw [ho b hb]
    exact (hA.1 b h1 (by rw [← hn]; exact h2) (by rw [← hk]; exact h3)).kept (oq b hb)
theorem zCell_ob {G : zG} {h : zH} {a ci : Nat} (hk : (h.2.2.2.1 a).1 = ci) (hc : ci < 13) : zCell G h a = .inr (ci, zFs h a (zTy ci)) := by
  unfold zCell
  rw [hk, if_pos hc]
theorem zCell_i {G : zG} {h : zH} {a kd n : Nat} (hk : h.2.2.2.1 a = (kd, n)) (h1 : 32 ≤ kd) (h2 : kd < 35) : zCell G h a = .inl (G.2.2.1 (kd - 32), n, .inl (h.1 a)) := by
  unfold zCell
  rw [hk, if_neg (by show ¬ kd < 13; omega), if_pos (by show kd < 35; omega)]
theorem zCell_j {G : zG} {h : zH} {a n : Nat} (hk : h.2.2.2.1 a = (35, n)) : zCell G h a = .inl (G.2.2.1 3, n, .inr (.inl (h.2.1 a))) := by
  unfold zCell
  rw [hk, if_neg (by show ¬ 35 < 13; decide), if_neg (by show ¬ 35 < 35; decide), if_pos rfl]
theorem zCell_r {G : zG} {h : zH} {a kd n : Nat} (hk : h.2.2.2.1 a = (kd, n)) (h1 : 36 ≤ kd) : zCell G h a = .inl (G.2.2.1 (kd - 32), n, .inr (.inr (.inr (.inr (h.2.2.1 a))))) := by
  unfold zCell
  rw [hk, if_neg (by show ¬ kd < 13; omega), if_neg (by show ¬ kd < 35; omega), if_neg (by show ¬ kd = 35; omega)]
theorem zFs_len (h : zH) (a : Nat) (ts : List Nat) : (zFs h a ts).length = ts.length := by simp [zFs]
theorem zFs_get (h : zH) (a : Nat) (ts : List Nat) (k : Nat) : (zFs h a ts)[k]? = (ts[k]?).map (fun t => zVal h a k t) := by
  unfold zFs
  rw [List.getElem?_mapIdx]
theorem zTys_get {ty : Nat → FieldType} {N k : Nat} (hk : k < N) : (zTys ty N)[k]? = some (zTag (ty k)) := by
  unfold zTys
  rw [List.getElem?_map, List.getElem?_range hk]
  rfl
theorem zFs_at {h : zH} {a ci : Nat} {C : String} {T : u_T} {N : Nat} {ty : Nat → FieldType} (hc : zCls ci C T N ty) {k : Nat} (hk : k < N) : (zFs h a (zTy ci))[k]? = some (zVal h a k (zTag (ty k))) := by
  rw [zFs_get, hc.2.2.2.2.2, zTys_get hk]
  rfl
theorem zFs_set {h h' : zH} {a : Nat} {ts : List Nat} {k t : Nat} (ht : ts[k]? = some t) (ho : ∀ j t, j ≠ k → zVal h' a j t = zVal h a j t) : (zFs h a ts).set k (zVal h' a k t) = zFs h' a ts := by
  apply List.ext_getElem?
  intro j
  rw [List.getElem?_set, zFs_get, zFs_get, zFs_len]
  have hl := (List.getElem?_eq_some_iff.mp ht).1
  by_cases hj : k = j
  · subst hj
    rw [if_pos rfl, if_pos hl, ht]
    rfl
  · rw [if_neg hj]
    cases ts[j]? with
    | none => rfl
    | some t => exact congrArg some (ho j t (fun q => hj q.symm)).symm
theorem zFs_off {h h' : zH} {a : Nat} {ts : List Nat} (ho : ∀ j t, zVal h' a j t = zVal h a j t) : zFs h' a ts = zFs h a ts := by
  unfold zFs
  congr 1
  funext k t
  exact ho k t
theorem zCell_I {G : zG} {h : zH} {I' : Nat → Nat → Int32} {b : Nat} (ho : I' b = h.1 b) : zCell G (I', h.2) b = zCell G h b := by
  unfold zCell
  rw [zFs_off (h := h) (h' := (I', h.2)) (fun j t => by unfold zVal; rw [show (I', h.2).1 b = h.1 b from ho])]
  rw [show (I', h.2).1 b = h.1 b from ho]
theorem zCell_J {G : zG} {h : zH} {J' : Nat → Nat → Int64} {b : Nat} (ho : J' b = h.2.1 b) : zCell G (h.1, J', h.2.2) b = zCell G h b := by
  unfold zCell
  rw [zFs_off (h := h) (h' := (h.1, J', h.2.2)) (fun j t => by unfold zVal; rw [show (h.1, J', h.2.2).2.1 b = h.2.1 b from ho])]
  rw [show (h.1, J', h.2.2).2.1 b = h.2.1 b from ho]
theorem zCell_R {G : zG} {h : zH} {R' : Nat → Nat → Option Nat} {b : Nat} (ho : R' b = h.2.2.1 b) : zCell G (h.1, h.2.1, R', h.2.2.2) b = zCell G h b := by
  unfold zCell
  rw [zFs_off (h := h) (h' := (h.1, h.2.1, R', h.2.2.2)) (fun j t => by unfold zVal; rw [show (h.1, h.2.1, R', h.2.2.2).2.2.1 b = h.2.2.1 b from ho])]
  rw [show (h.1, h.2.1, R', h.2.2.2).2.2.1 b = h.2.2.1 b from ho]
def zFit (ty : FieldType) (v : Value) : Prop := narrow ty v = v ∧ fits ty v = true
theorem zFitZ {v : Int32} (h : v = 0 ∨ v = 1) : zFit .boolean (.int v) := by
  rcases h with rfl | rfl <;> exact ⟨by decide, by decide⟩
theorem zGetI {G : zG} {d kc ks pc : Nat} {M : zM} {ls : List (Nat × Value)} {st : List Value} {h : zH} {Q : Option Value → zH → Prop} {a : Nat} (ci k idx : Nat) {C : String} {T : u_T} {N : Nat} {ty : Nat → FieldType} (hC : zCls ci C T N ty) (pc' : Nat) (hd : decode M.2.1 pc = .ok (.getfield idx, 3)) (hn : pc + 3 = pc') (hk : k < N) (ht : zTag (ty k) = 0) (hw : Cond.fieldLink M.1.cls idx C (T k).2.1 (T k).2.2.1 ∈ lw_tbl) (hT : (T k).1 = C) (ho : zOb G h a ci) (K : zV G d M kc ks pc' ls (.int (h.1 a k) :: st) h Q) : zV G d M kc ks pc ls (.ref a :: st) h Q := by
  subst hn
  intro p l e R s m args below meth c H locs cells slots la X hA hS hc hs hl
  have hts : ∀ w ∈ u_ws C T N, w.before args s = true := fun w hw => X.2.2.2.2.2.2.2.1.1 args w (hC.2.2.1 w hw).1 (hC.2.2.1 w hw).2
  refine va_get X.1 X.2.1 hts (fun _ q => q) X.2.2.2.2.2.1 X.2.2.2.2.2.2.2.1.2.2.2.1 (hA.one ho.1 ho.2.1 (by rw [ho.2.2]; have := hC.2.1; omega)) 0 (ci := ci) (fs := zFs h a (zTy ci)) ?_ hC.1 k hk (X.2.2.2.2.2.2.2.1.1 _ _ hw rfl) (fun x hx => by rw [hT] at hx; exact hx) (v := .int (h.1 a k)) ?_ hd (K p l e R s m args below meth c H locs cells slots la X hA hS hc hs hl)
  · show some (a, zCell G h a) = _; rw [zCell_ob ho.2.2 hC.2.1]
  · rw [zFs_at hC hk, ht]; rfl
theorem zGetJ {G : zG} {d kc ks pc : Nat} {M : zM} {ls : List (Nat × Value)} {st : List Value} {h : zH} {Q : Option Value → zH → Prop} {a : Nat} (ci k idx : Nat) {C : String} {T : u_T} {N : Nat} {ty : Nat → FieldType} (hC : zCls ci C T N ty) (pc' : Nat) (hd : decode M.2.1 pc = .ok (.getfield idx, 3)) (hn : pc + 3 = pc') (hk : k < N) (ht : zTag (ty k) = 1) (hw : Cond.fieldLink M.1.cls idx C (T k).2.1 (T k).2.2.1 ∈ lw_tbl) (hT : (T k).1 = C) (ho : zOb G h a ci) (K : zV G d M kc ks pc' ls (.long (h.2.1 a k) :: st) h Q) : zV G d M kc ks pc ls (.ref a :: st) h Q := by
  subst hn
  intro p l e R s m args below meth c H locs cells slots la X hA hS hc hs hl
  have hts : ∀ w ∈ u_ws C T N, w.before args s = true := fun w hw => X.2.2.2.2.2.2.2.1.1 args w (hC.2.2.1 w hw).1 (hC.2.2.1 w hw).2
  refine va_get X.1 X.2.1 hts (fun _ q => q) X.2.2.2.2.2.1 X.2.2.2.2.2.2.2.1.2.2.2.1 (hA.one ho.1 ho.2.1 (by rw [ho.2.2]; have := hC.2.1; omega)) 0 (ci := ci) (fs := zFs h a (zTy ci)) ?_ hC.1 k hk (X.2.2.2.2.2.2.2.1.1 _ _ hw rfl) (fun x hx => by rw [hT] at hx; exact hx) (v := .long (h.2.1 a k)) ?_ hd (K p l e R s m args below meth c H locs cells slots la X hA hS hc hs hl)
  · show some (a, zCell G h a) = _; rw [zCell_ob ho.2.2 hC.2.1]
  · rw [zFs_at hC hk, ht]; rfl
theorem zGetR {G : zG} {d kc ks pc : Nat} {M : zM} {ls : List (Nat × Value)} {st : List Value} {h : zH} {Q : Option Value → zH → Prop} {a : Nat} (ci k idx : Nat) {C : String} {T : u_T} {N : Nat} {ty : Nat → FieldType} (hC : zCls ci C T N ty) (pc' : Nat) (hd : decode M.2.1 pc = .ok (.getfield idx, 3)) (hn : pc + 3 = pc') (hk : k < N) (ht : zTag (ty k) = 2) (hw : Cond.fieldLink M.1.cls idx C (T k).2.1 (T k).2.2.1 ∈ lw_tbl) (hT : (T k).1 = C) (ho : zOb G h a ci) (K : zV G d M kc ks pc' ls (va_rf (h.2.2.1 a k) :: st) h Q) : zV G d M kc ks pc ls (.ref a :: st) h Q := by
  subst hn
  intro p l e R s m args below meth c H locs cells slots la X hA hS hc hs hl
  have hts : ∀ w ∈ u_ws C T N, w.before args s = true := fun w hw => X.2.2.2.2.2.2.2.1.1 args w (hC.2.2.1 w hw).1 (hC.2.2.1 w hw).2
  refine va_get X.1 X.2.1 hts (fun _ q => q) X.2.2.2.2.2.1 X.2.2.2.2.2.2.2.1.2.2.2.1 (hA.one ho.1 ho.2.1 (by rw [ho.2.2]; have := hC.2.1; omega)) 0 (ci := ci) (fs := zFs h a (zTy ci)) ?_ hC.1 k hk (X.2.2.2.2.2.2.2.1.1 _ _ hw rfl) (fun x hx => by rw [hT] at hx; exact hx) (v := va_rf (h.2.2.1 a k)) ?_ hd (K p l e R s m args below meth c H locs cells slots la X hA hS hc hs hl)
  · show some (a, zCell G h a) = _; rw [zCell_ob ho.2.2 hC.2.1]
  · rw [zFs_at hC hk, ht]; rfl
theorem zGetRN {G : zG} {d kc ks pc : Nat} {M : zM} {ls : List (Nat × Value)} {st : List Value} {h : zH} {Q : Option Value → zH → Prop} {a : Nat} (ci k idx : Nat) (host : String) {C : String} {T : u_T} {N : Nat} {ty : Nat → FieldType} (hC : zCls ci C T N ty) (pc' : Nat) (hd : decode M.2.1 pc = .ok (.getfield idx, 3)) (hn : pc + 3 = pc') (hk : k < N) (ht : zTag (ty k) = 2) (hw : Cond.fieldLinkNest M.1.cls idx C (T k).2.1 (T k).2.2.1 host ∈ zNest) (hT : (T k).1 = C) (ho : zOb G h a ci) (K : zV G d M kc ks pc' ls (va_rf (h.2.2.1 a k) :: st) h Q) : zV G d M kc ks pc ls (.ref a :: st) h Q := by
  subst hn
  intro p l e R s m args below meth c H locs cells slots la X hA hS hc hs hl
  have hts : ∀ w ∈ u_ws C T N, w.before args s = true := fun w hw => X.2.2.2.2.2.2.2.1.1 args w (hC.2.2.1 w hw).1 (hC.2.2.1 w hw).2
  refine va_getN X.1 X.2.1 hts (fun _ q => q) X.2.2.2.2.2.1 X.2.2.2.2.2.2.2.1.2.2.2.1 (hA.one ho.1 ho.2.1 (by rw [ho.2.2]; have := hC.2.1; omega)) 0 (ci := ci) (fs := zFs h a (zTy ci)) ?_ hC.1 k hk (va_Nw.use rfl (X.2.2.2.2.2.2.2.1.2.1.1 _ hw)) (fun x hx => by rw [hT] at hx; exact hx) (v := va_rf (h.2.2.1 a k)) ?_ hd (K p l e R s m args below meth c H locs cells slots la X hA hS hc hs hl)
  · show some (a, zCell G h a) = _; rw [zCell_ob ho.2.2 hC.2.1]
  · rw [zFs_at hC hk, ht]; rfl
theorem zPutI {G : zG} {d kc ks pc : Nat} {M : zM} {ls : List (Nat × Value)} {st : List Value} {h : zH} {Q : Option Value → zH → Prop} {a : Nat} {v : Int32} (ci k idx : Nat) {C : String} {T : u_T} {N : Nat} {ty : Nat → FieldType} (hC : zCls ci C T N ty) (pc' : Nat) (hd : decode M.2.1 pc = .ok (.putfield idx, 3)) (hn : pc + 3 = pc') (hk : k < N) (ht : zTag (ty k) = 0) (hw : Cond.fieldLink M.1.cls idx C (T k).2.1 (T k).2.2.1 ∈ lw_tbl) (hf : (T k).2.2.2 = false) (hT : (T k).1 = C) (hv : zFit (ty k) (.int v)) (ho : zOb G h a ci) (K : zV G d M kc ks pc' ls st (zU h.1 a k v, h.2) Q) : zV G d M kc ks pc ls (.int v :: .ref a :: st) h Q := by
  subst hn
  intro p l e R s m args below meth c H locs cells slots la X hA hS hc hs hl
  have hts : ∀ w ∈ u_ws C T N, w.before args s = true := fun w hw => X.2.2.2.2.2.2.2.1.1 args w (hC.2.2.1 w hw).1 (hC.2.2.1 w hw).2
  have hlen : k < (zFs h a (zTy ci)).length := by rw [zFs_len, hC.2.2.2.2.2]; simpa [zTys] using hk
  refine zw_put (D := G.2.1) (cl := zCl) X.1 X.2.1 hts (fun _ q => q) ty hC.2.2.2.1 hC.2.2.2.2.1 X.2.2.2.2.2.1 X.2.2.2.2.2.2.2.1.2.2.2.1 (hA.one ho.1 ho.2.1 (by rw [ho.2.2]; have := hC.2.1; omega)) (zD1 ho.1) hS 0 (ci := ci) (fs := zFs h a (zTy ci)) ?_ hC.1 k hk (X.2.2.2.2.2.2.2.1.1 _ _ hw rfl) (fun x hx => by rw [hT] at hx; exact hx) hf (hC.2.2.2.1 k hk) hv.1 hv.2 hlen hd (fun H1 locs1 hP1 hD1 hS1 hz hoq => ?_)
  · show some (a, zCell G h a) = _; rw [zCell_ob ho.2.2 hC.2.1]
  · refine K p l e R s m args below meth c H1 locs1 cells slots la X (zAt.set (h := h) hA hz (hP1 0 _ rfl) hoq rfl rfl (fun b hb => zCell_I (zU_off hb)) ?_) hS1 hc hs hl
    rw [zCell_ob (h := (zU h.1 a k v, h.2)) ho.2.2 hC.2.1]
    refine congrArg (fun x => Sum.inr (ci, x)) (Eq.symm ?_)
    have hg : (zTy ci)[k]? = some 0 := by rw [hC.2.2.2.2.2, zTys_get hk, ht]
    have := zFs_set (h := h) (h' := (zU h.1 a k v, h.2)) (a := a) hg (fun j t hj => by simp [zVal, zU, hj])
    rw [show zVal (zU h.1 a k v, h.2) a k 0 = .int v by simp [zVal, zU]] at this
    exact this
theorem zPutFI {G : zG} {d kc ks pc : Nat} {M : zM} {ls : List (Nat × Value)} {st : List Value} {h : zH} {Q : Option Value → zH → Prop} {a : Nat} {v : Int32} (ci k idx : Nat) {C : String} {T : u_T} {N : Nat} {ty : Nat → FieldType} (hC : zCls ci C T N ty) (pc' : Nat) (hd : decode M.2.1 pc = .ok (.putfield idx, 3)) (hn : pc + 3 = pc') (hk : k < N) (ht : zTag (ty k) = 0) (hw : Cond.fieldLink M.1.cls idx C (T k).2.1 (T k).2.2.1 ∈ lw_tbl) (hf : (T k).2.2.2 = true) (hi : M.1.name = "<init>") (hT : (T k).1 = C) (hO : C = M.1.cls) (hv : zFit (ty k) (.int v)) (ho : zOb G h a ci) (K : zV G d M kc ks pc' ls st (zU h.1 a k v, h.2) Q) : zV G d M kc ks pc ls (.int v :: .ref a :: st) h Q := by
  subst hn
  intro p l e R s m args below meth c H locs cells slots la X hA hS hc hs hl
  have hts : ∀ w ∈ u_ws C T N, w.before args s = true := fun w hw => X.2.2.2.2.2.2.2.1.1 args w (hC.2.2.1 w hw).1 (hC.2.2.1 w hw).2
  have hlen : k < (zFs h a (zTy ci)).length := by rw [zFs_len, hC.2.2.2.2.2]; simpa [zTys] using hk
  refine zw_putF (D := G.2.1) (cl := zCl) X.1 X.2.1 hts (fun _ q => q) ty hC.2.2.2.1 hC.2.2.2.2.1 X.2.2.2.2.2.1 X.2.2.2.2.2.2.2.1.2.2.2.1 (hA.one ho.1 ho.2.1 (by rw [ho.2.2]; have := hC.2.1; omega)) (zD1 ho.1) hS 0 (ci := ci) (fs := zFs h a (zTy ci)) ?_ hC.1 k hk (X.2.2.2.2.2.2.2.1.1 _ _ hw rfl) (fun x hx => by rw [hT] at hx; exact hx) hf (X.2.2.2.2.2.2.1.trans hi) (hT.trans hO) (hC.2.2.2.1 k hk) hv.1 hv.2 hlen hd (fun H1 locs1 hP1 hD1 hS1 hz hoq => ?_)
  · show some (a, zCell G h a) = _; rw [zCell_ob ho.2.2 hC.2.1]
  · refine K p l e R s m args below meth c H1 locs1 cells slots la X (zAt.set (h := h) hA hz (hP1 0 _ rfl) hoq rfl rfl (fun b hb => zCell_I (zU_off hb)) ?_) hS1 hc hs hl
    rw [zCell_ob (h := (zU h.1 a k v, h.2)) ho.2.2 hC.2.1]
    refine congrArg (fun x => Sum.inr (ci, x)) (Eq.symm ?_)
    have hg : (zTy ci)[k]? = some 0 := by rw [hC.2.2.2.2.2, zTys_get hk, ht]
    have := zFs_set (h := h) (h' := (zU h.1 a k v, h.2)) (a := a) hg (fun j t hj => by simp [zVal, zU, hj])
    rw [show zVal (zU h.1 a k v, h.2) a k 0 = .int v by simp [zVal, zU]] at this
    exact this
theorem zPutJ {G : zG} {d kc ks pc : Nat} {M : zM} {ls : List (Nat × Value)} {st : List Value} {h : zH} {Q : Option Value → zH → Prop} {a : Nat} {v : Int64} (ci k idx : Nat) {C : String} {T : u_T} {N : Nat} {ty : Nat → FieldType} (hC : zCls ci C T N ty) (pc' : Nat) (hd : decode M.2.1 pc = .ok (.putfield idx, 3)) (hn : pc + 3 = pc') (hk : k < N) (ht : zTag (ty k) = 1) (hw : Cond.fieldLink M.1.cls idx C (T k).2.1 (T k).2.2.1 ∈ lw_tbl) (hf : (T k).2.2.2 = false) (hT : (T k).1 = C) (hv : zFit (ty k) (.long v)) (ho : zOb G h a ci) (K : zV G d M kc ks pc' ls st (h.1, zU h.2.1 a k v, h.2.2) Q) : zV G d M kc ks pc ls (.long v :: .ref a :: st) h Q := by
  subst hn
  intro p l e R s m args below meth c H locs cells slots la X hA hS hc hs hl
  have hts : ∀ w ∈ u_ws C T N, w.before args s = true := fun w hw => X.2.2.2.2.2.2.2.1.1 args w (hC.2.2.1 w hw).1 (hC.2.2.1 w hw).2
  have hlen : k < (zFs h a (zTy ci)).length := by rw [zFs_len, hC.2.2.2.2.2]; simpa [zTys] using hk
  refine zw_put (D := G.2.1) (cl := zCl) X.1 X.2.1 hts (fun _ q => q) ty hC.2.2.2.1 hC.2.2.2.2.1 X.2.2.2.2.2.1 X.2.2.2.2.2.2.2.1.2.2.2.1 (hA.one ho.1 ho.2.1 (by rw [ho.2.2]; have := hC.2.1; omega)) (zD1 ho.1) hS 0 (ci := ci) (fs := zFs h a (zTy ci)) ?_ hC.1 k hk (X.2.2.2.2.2.2.2.1.1 _ _ hw rfl) (fun x hx => by rw [hT] at hx; exact hx) hf (hC.2.2.2.1 k hk) hv.1 hv.2 hlen hd (fun H1 locs1 hP1 hD1 hS1 hz hoq => ?_)
  · show some (a, zCell G h a) = _; rw [zCell_ob ho.2.2 hC.2.1]
  · refine K p l e R s m args below meth c H1 locs1 cells slots la X (zAt.set (h := h) hA hz (hP1 0 _ rfl) hoq rfl rfl (fun b hb => zCell_J (zU_off hb)) ?_) hS1 hc hs hl
    rw [zCell_ob (h := (h.1, zU h.2.1 a k v, h.2.2)) ho.2.2 hC.2.1]
    refine congrArg (fun x => Sum.inr (ci, x)) (Eq.symm ?_)
    have hg : (zTy ci)[k]? = some 1 := by rw [hC.2.2.2.2.2, zTys_get hk, ht]
    have := zFs_set (h := h) (h' := (h.1, zU h.2.1 a k v, h.2.2)) (a := a) hg (fun j t hj => by simp [zVal, zU, hj])
    rw [show zVal (h.1, zU h.2.1 a k v, h.2.2) a k 1 = .long v by simp [zVal, zU]] at this
    exact this
theorem zPutFJ {G : zG} {d kc ks pc : Nat} {M : zM} {ls : List (Nat × Value)} {st : List Value} {h : zH} {Q : Option Value → zH → Prop} {a : Nat} {v : Int64} (ci k idx : Nat) {C : String} {T : u_T} {N : Nat} {ty : Nat → FieldType} (hC : zCls ci C T N ty) (pc' : Nat) (hd : decode M.2.1 pc = .ok (.putfield idx, 3)) (hn : pc + 3 = pc') (hk : k < N) (ht : zTag (ty k) = 1) (hw : Cond.fieldLink M.1.cls idx C (T k).2.1 (T k).2.2.1 ∈ lw_tbl) (hf : (T k).2.2.2 = true) (hi : M.1.name = "<init>") (hT : (T k).1 = C) (hO : C = M.1.cls) (hv : zFit (ty k) (.long v)) (ho : zOb G h a ci) (K : zV G d M kc ks pc' ls st (h.1, zU h.2.1 a k v, h.2.2) Q) : zV G d M kc ks pc ls (.long v :: .ref a :: st) h Q := by
  subst hn
  intro p l e R s m args below meth c H locs cells slots la X hA hS hc hs hl
  have hts : ∀ w ∈ u_ws C T N, w.before args s = true := fun w hw => X.2.2.2.2.2.2.2.1.1 args w (hC.2.2.1 w hw).1 (hC.2.2.1 w hw).2
  have hlen : k < (zFs h a (zTy ci)).length := by rw [zFs_len, hC.2.2.2.2.2]; simpa [zTys] using hk
  refine zw_putF (D := G.2.1) (cl := zCl) X.1 X.2.1 hts (fun _ q => q) ty hC.2.2.2.1 hC.2.2.2.2.1 X.2.2.2.2.2.1 X.2.2.2.2.2.2.2.1.2.2.2.1 (hA.one ho.1 ho.2.1 (by rw [ho.2.2]; have := hC.2.1; omega)) (zD1 ho.1) hS 0 (ci := ci) (fs := zFs h a (zTy ci)) ?_ hC.1 k hk (X.2.2.2.2.2.2.2.1.1 _ _ hw rfl) (fun x hx => by rw [hT] at hx; exact hx) hf (X.2.2.2.2.2.2.1.trans hi) (hT.trans hO) (hC.2.2.2.1 k hk) hv.1 hv.2 hlen hd (fun H1 locs1 hP1 hD1 hS1 hz hoq => ?_)
  · show some (a, zCell G h a) = _; rw [zCell_ob ho.2.2 hC.2.1]
  · refine K p l e R s m args below meth c H1 locs1 cells slots la X (zAt.set (h := h) hA hz (hP1 0 _ rfl) hoq rfl rfl (fun b hb => zCell_J (zU_off hb)) ?_) hS1 hc hs hl
    rw [zCell_ob (h := (h.1, zU h.2.1 a k v, h.2.2)) ho.2.2 hC.2.1]
    refine congrArg (fun x => Sum.inr (ci, x)) (Eq.symm ?_)
    have hg : (zTy ci)[k]? = some 1 := by rw [hC.2.2.2.2.2, zTys_get hk, ht]
    have := zFs_set (h := h) (h' := (h.1, zU h.2.1 a k v, h.2.2)) (a := a) hg (fun j t hj => by simp [zVal, zU, hj])
    rw [show zVal (h.1, zU h.2.1 a k v, h.2.2) a k 1 = .long v by simp [zVal, zU]] at this
    exact this
theorem zPutR {G : zG} {d kc ks pc : Nat} {M : zM} {ls : List (Nat × Value)} {st : List Value} {h : zH} {Q : Option Value → zH → Prop} {a : Nat} {v : Option Nat} (ci k idx : Nat) {C : String} {T : u_T} {N : Nat} {ty : Nat → FieldType} (hC : zCls ci C T N ty) (pc' : Nat) (hd : decode M.2.1 pc = .ok (.putfield idx, 3)) (hn : pc + 3 = pc') (hk : k < N) (ht : zTag (ty k) = 2) (hw : Cond.fieldLink M.1.cls idx C (T k).2.1 (T k).2.2.1 ∈ lw_tbl) (hf : (T k).2.2.2 = false) (hT : (T k).1 = C) (hv : zFit (ty k) (va_rf v)) (ho : zOb G h a ci) (K : zV G d M kc ks pc' ls st (h.1, h.2.1, zU h.2.2.1 a k v, h.2.2.2) Q) : zV G d M kc ks pc ls (va_rf v :: .ref a :: st) h Q := by
  subst hn
  intro p l e R s m args below meth c H locs cells slots la X hA hS hc hs hl
  have hts : ∀ w ∈ u_ws C T N, w.before args s = true := fun w hw => X.2.2.2.2.2.2.2.1.1 args w (hC.2.2.1 w hw).1 (hC.2.2.1 w hw).2
  have hlen : k < (zFs h a (zTy ci)).length := by rw [zFs_len, hC.2.2.2.2.2]; simpa [zTys] using hk
  refine zw_put (D := G.2.1) (cl := zCl) X.1 X.2.1 hts (fun _ q => q) ty hC.2.2.2.1 hC.2.2.2.2.1 X.2.2.2.2.2.1 X.2.2.2.2.2.2.2.1.2.2.2.1 (hA.one ho.1 ho.2.1 (by rw [ho.2.2]; have := hC.2.1; omega)) (zD1 ho.1) hS 0 (ci := ci) (fs := zFs h a (zTy ci)) ?_ hC.1 k hk (X.2.2.2.2.2.2.2.1.1 _ _ hw rfl) (fun x hx => by rw [hT] at hx; exact hx) hf (hC.2.2.2.1 k hk) hv.1 hv.2 hlen hd (fun H1 locs1 hP1 hD1 hS1 hz hoq => ?_)
  · show some (a, zCell G h a) = _; rw [zCell_ob ho.2.2 hC.2.1]
  · refine K p l e R s m args below meth c H1 locs1 cells slots la X (zAt.set (h := h) hA hz (hP1 0 _ rfl) hoq rfl rfl (fun b hb => zCell_R (zU_off hb)) ?_) hS1 hc hs hl
    rw [zCell_ob (h := (h.1, h.2.1, zU h.2.2.1 a k v, h.2.2.2)) ho.2.2 hC.2.1]
    refine congrArg (fun x => Sum.inr (ci, x)) (Eq.symm ?_)
    have hg : (zTy ci)[k]? = some 2 := by rw [hC.2.2.2.2.2, zTys_get hk, ht]
    have := zFs_set (h := h) (h' := (h.1, h.2.1, zU h.2.2.1 a k v, h.2.2.2)) (a := a) hg (fun j t hj => by simp [zVal, zU, hj])
    rw [show zVal (h.1, h.2.1, zU h.2.2.1 a k v, h.2.2.2) a k 2 = va_rf v by simp [zVal, zU]] at this
    exact this
theorem zPutFR {G : zG} {d kc ks pc : Nat} {M : zM} {ls : List (Nat × Value)} {st : List Value} {h : zH} {Q : Option Value → zH → Prop} {a : Nat} {v : Option Nat} (ci k idx : Nat) {C : String} {T : u_T} {N : Nat} {ty : Nat → FieldType} (hC : zCls ci C T N ty) (pc' : Nat) (hd : decode M.2.1 pc = .ok (.putfield idx, 3)) (hn : pc + 3 = pc') (hk : k < N) (ht : zTag (ty k) = 2) (hw : Cond.fieldLink M.1.cls idx C (T k).2.1 (T k).2.2.1 ∈ lw_tbl) (hf : (T k).2.2.2 = true) (hi : M.1.name = "<init>") (hT : (T k).1 = C) (hO : C = M.1.cls) (hv : zFit (ty k) (va_rf v)) (ho : zOb G h a ci) (K : zV G d M kc ks pc' ls st (h.1, h.2.1, zU h.2.2.1 a k v, h.2.2.2) Q) : zV G d M kc ks pc ls (va_rf v :: .ref a :: st) h Q := by
  subst hn
  intro p l e R s m args below meth c H locs cells slots la X hA hS hc hs hl
  have hts : ∀ w ∈ u_ws C T N, w.before args s = true := fun w hw => X.2.2.2.2.2.2.2.1.1 args w (hC.2.2.1 w hw).1 (hC.2.2.1 w hw).2
  have hlen : k < (zFs h a (zTy ci)).length := by rw [zFs_len, hC.2.2.2.2.2]; simpa [zTys] using hk
  refine zw_putF (D := G.2.1) (cl := zCl) X.1 X.2.1 hts (fun _ q => q) ty hC.2.2.2.1 hC.2.2.2.2.1 X.2.2.2.2.2.1 X.2.2.2.2.2.2.2.1.2.2.2.1 (hA.one ho.1 ho.2.1 (by rw [ho.2.2]; have := hC.2.1; omega)) (zD1 ho.1) hS 0 (ci := ci) (fs := zFs h a (zTy ci)) ?_ hC.1 k hk (X.2.2.2.2.2.2.2.1.1 _ _ hw rfl) (fun x hx => by rw [hT] at hx; exact hx) hf (X.2.2.2.2.2.2.1.trans hi) (hT.trans hO) (hC.2.2.2.1 k hk) hv.1 hv.2 hlen hd (fun H1 locs1 hP1 hD1 hS1 hz hoq => ?_)
  · show some (a, zCell G h a) = _; rw [zCell_ob ho.2.2 hC.2.1]
  · refine K p l e R s m args below meth c H1 locs1 cells slots la X (zAt.set (h := h) hA hz (hP1 0 _ rfl) hoq rfl rfl (fun b hb => zCell_R (zU_off hb)) ?_) hS1 hc hs hl
    rw [zCell_ob (h := (h.1, h.2.1, zU h.2.2.1 a k v, h.2.2.2)) ho.2.2 hC.2.1]
    refine congrArg (fun x => Sum.inr (ci, x)) (Eq.symm ?_)
    have hg : (zTy ci)[k]? = some 2 := by rw [hC.2.2.2.2.2, zTys_get hk, ht]
    have := zFs_set (h := h) (h' := (h.1, h.2.1, zU h.2.2.1 a k v, h.2.2.2)) (a := a) hg (fun j t hj => by simp [zVal, zU, hj])
    rw [show zVal (h.1, h.2.1, zU h.2.2.1 a k v, h.2.2.2) a k 2 = va_rf v by simp [zVal, zU]] at this
    exact this
