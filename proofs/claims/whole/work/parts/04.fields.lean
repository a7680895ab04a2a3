/-- the function, changed at one place -/
def zU {α : Type} (f : Nat → Nat → α) (a k : Nat) (v : α) : Nat → Nat → α := fun b j => if b = a then (if j = k then v else f b j) else f b j
theorem zU_self {α : Type} (f : Nat → Nat → α) (a k : Nat) (v : α) : zU f a k v a k = v := by simp [zU]
theorem zU_ne {α : Type} {f : Nat → Nat → α} {a k b j : Nat} {v : α} (h : ¬ (b = a ∧ j = k)) : zU f a k v b j = f b j := by
  unfold zU
  by_cases h1 : b = a
  · rw [if_pos h1, if_neg (fun h2 => h ⟨h1, h2⟩)]
  · rw [if_neg h1]
theorem zU_off {α : Type} {f : Nat → Nat → α} {a k b : Nat} {v : α} (h : b ≠ a) : zU f a k v b = f b := by
  funext j
  simp [zU, h]
def zOb (G : zG) (h : zH) (a ci : Nat) : Prop := G.1 ≤ a ∧ a < h.2.2.2.2 ∧ (h.2.2.2.1 a).1 = ci
def zAr (G : zG) (h : zH) (a kd n : Nat) : Prop := G.1 ≤ a ∧ a < h.2.2.2.2 ∧ h.2.2.2.1 a = (kd, n)
def zCls (ci : Nat) (C : String) (T : u_T) (N : Nat) (ty : Nat → FieldType) : Prop :=
  zCl[ci]? = some (C, T, N) ∧ ci < 13 ∧ (∀ w ∈ u_ws C T N, w ∈ lw_tbl ∧ goodWord w = true) ∧ (∀ k, k < N → parseFieldDescriptor (T k).2.2.1 = some (ty k)) ∧ (∀ a, a < N → ∀ b, b < N → a ≠ b → (T a).2.1 ≠ (T b).2.1) ∧ zTy ci = zTys ty N
theorem zIn {ws : List Cond} (ps : List Nat) (hp : ws = ps.filterMap (fun i => lw_tbl[i]?)) (hg : ws.all goodWord = true) : ∀ w ∈ ws, w ∈ lw_tbl ∧ goodWord w = true := by
  intro w hw
  refine ⟨?_, List.all_eq_true.mp hg w hw⟩
  rw [hp] at hw
  obtain ⟨i, -, hi⟩ := List.mem_filterMap.mp hw
  exact List.mem_of_getElem? hi
-- the world, a cell at a time
theorem zAt.one {G : zG} {h : zH} {H : Heap} {a : Nat} (hA : zAt G h H) (h1 : G.1 ≤ a) (h2 : a < h.2.2.2.2) (h3 : (h.2.2.2.1 a).1 ≠ 99) : va_P G.2.1 zCl [(a, zCell G h a)] H := by
  intro k q hk
  have hz : k < 1 := (List.getElem?_eq_some_iff.mp hk).1
  rw [show k = 0 by omega] at hk
  cases hk
  exact hA.1 a h1 h2 h3
/-- the world, changed at one cell -/
theorem zAt.set {G : zG} {h h' : zH} {H H1 : Heap} {a : Nat} {e : va_E} (hA : zAt G h H) (hz : H1.size = H.size) (he : va_at G.2.1 zCl (a, e) H1) (oq : ∀ q : Nat, q ≠ a → H1[q]? = H[q]?) (hn : h'.2.2.2.2 = h.2.2.2.2) (hk : h'.2.2.2.1 = h.2.2.2.1) (ho : ∀ b, b ≠ a → zCell G h' b = zCell G h b) (hc : zCell G h' a = e) : zAt G h' H1 := by
  subst hc
  refine ⟨fun b h1 h2 h3 => ?_, by rw [hz, hn]; exact hA.2.1, by rw [hn]; exact hA.2.2⟩
  by_cases hb : b = a
  · subst hb; exact he
  · rw [ho b hb]
    exact (hA.1 b h1 (by rw [← hn]; exact h2) (by rw [← hk]; exact h3)).kept (oq b hb)
theorem zCell_ob {G : zG} {h : zH} {a ci : Nat} (hk : (h.2.2.2.1 a).1 = ci) (hc : ci < 13) : zCell G h a = .inr (ci, zFs h a (zTy ci)) := by
  unfold zCell
  rw [hk, if_pos hc]
theorem zCell_i {G : zG} {h : zH} {a kd n : Nat} (hk : h.2.2.2.1 a = (kd, n)) (h1 : 32 ≤ kd) (h2 : kd < 35) : zCell G h a = .inl (G.2.2.1 (kd - 32), n, .inl (h.1 a)) := by
  unfold zCell
  rw [hk, if_neg (by show ¬ kd < 13; omega), if_pos (by show kd < 35; omega)]
theorem zCell_j {G : zG} {h : zH} {a n : Nat} (hk : h.2.2.2.1 a = (35, n)) : zCell G h a = .inl (G.2.2.1 3, n, .inr (.inl (h.2.1 a))) := by
  unfold zCell
  rw [hk, if_neg (by show ¬ 35 < 13; decide), if_neg (by show ¬ 35 < 35; decide), if_pos rfl]
theorem zCell_r {G : zG} {h : zH} {a kd n : Nat} (hk : h.2.2.2.1 a = (kd, n)) (h1 : 36 ≤ kd) : zCell G h a = .inl (G.2.2.1 (kd - 32), n, .inr (.inr (.inr (.inr (h.2.2.1 a))))) := by
  unfold zCell
  rw [hk, if_neg (by show ¬ kd < 13; omega), if_neg (by show ¬ kd < 35; omega), if_neg (by show ¬ kd = 35; omega)]
theorem zFs_len (h : zH) (a : Nat) (ts : List Nat) : (zFs h a ts).length = ts.length := by simp [zFs]
theorem zFs_get (h : zH) (a : Nat) (ts : List Nat) (k : Nat) : (zFs h a ts)[k]? = (ts[k]?).map (fun t => zVal h a k t) := by
  unfold zFs
  rw [List.getElem?_mapIdx]
theorem zTys_get {ty : Nat → FieldType} {N k : Nat} (hk : k < N) : (zTys ty N)[k]? = some (zTag (ty k)) := by
  unfold zTys
  rw [List.getElem?_map, List.getElem?_range hk]
  rfl
theorem zFs_at {h : zH} {a ci : Nat} {C : String} {T : u_T} {N : Nat} {ty : Nat → FieldType} (hc : zCls ci C T N ty) {k : Nat} (hk : k < N) : (zFs h a (zTy ci))[k]? = some (zVal h a k (zTag (ty k))) := by
  rw [zFs_get, hc.2.2.2.2.2, zTys_get hk]
  rfl
theorem zFs_set {h h' : zH} {a : Nat} {ts : List Nat} {k t : Nat} (ht : ts[k]? = some t) (ho : ∀ j t, j ≠ k → zVal h' a j t = zVal h a j t) : (zFs h a ts).set k (zVal h' a k t) = zFs h' a ts := by
  apply List.ext_getElem?
  intro j
  rw [List.getElem?_set, zFs_get, zFs_get, zFs_len]
  have hl := (List.getElem?_eq_some_iff.mp ht).1
  by_cases hj : k = j
  · subst hj
    rw [if_pos rfl, if_pos hl, ht]
    rfl
  · rw [if_neg hj]
    cases ts[j]? with
    | none => rfl
    | some t => exact congrArg some (ho j t (fun q => hj q.symm)).symm
theorem zFs_off {h h' : zH} {a : Nat} {ts : List Nat} (ho : ∀ j t, zVal h' a j t = zVal h a j t) : zFs h' a ts = zFs h a ts := by
  unfold zFs
  congr 1
  funext k t
  exact ho k t
theorem zCell_I {G : zG} {h : zH} {I' : Nat → Nat → Int32} {b : Nat} (ho : I' b = h.1 b) : zCell G (I', h.2) b = zCell G h b := by
  unfold zCell
  rw [zFs_off (h := h) (h' := (I', h.2)) (fun j t => by unfold zVal; rw [show (I', h.2).1 b = h.1 b from ho])]
  rw [show (I', h.2).1 b = h.1 b from ho]
theorem zCell_J {G : zG} {h : zH} {J' : Nat → Nat → Int64} {b : Nat} (ho : J' b = h.2.1 b) : zCell G (h.1, J', h.2.2) b = zCell G h b := by
  unfold zCell
  rw [zFs_off (h := h) (h' := (h.1, J', h.2.2)) (fun j t => by unfold zVal; rw [show (h.1, J', h.2.2).2.1 b = h.2.1 b from ho])]
  rw [show (h.1, J', h.2.2).2.1 b = h.2.1 b from ho]
theorem zCell_R {G : zG} {h : zH} {R' : Nat → Nat → Option Nat} {b : Nat} (ho : R' b = h.2.2.1 b) : zCell G (h.1, h.2.1, R', h.2.2.2) b = zCell G h b := by
  unfold zCell
  rw [zFs_off (h := h) (h' := (h.1, h.2.1, R', h.2.2.2)) (fun j t => by unfold zVal; rw [show (h.1, h.2.1, R', h.2.2.2).2.2.1 b = h.2.2.1 b from ho])]
  rw [show (h.1, h.2.1, R', h.2.2.2).2.2.1 b = h.2.2.1 b from ho]
def zFit (ty : FieldType) (v : Value) : Prop := narrow ty v = v ∧ fits ty v = true
theorem zFitZ {v : Int32} (h : v = 0 ∨ v = 1) : zFit .boolean (.int v) := by
  rcases h with rfl | rfl <;> exact ⟨by decide, by decide⟩
theorem zGetI {G : zG} {d kc ks pc : Nat} {M : zM} {ls : List (Nat × Value)} {st : List Value} {h : zH} {Q : Option Value → zH → Prop} {a : Nat} (ci k idx : Nat) {C : String} {T : u_T} {N : Nat} {ty : Nat → FieldType} (hC : zCls ci C T N ty) (pc' : Nat) (hd : decode M.2.1 pc = .ok (.getfield idx, 3)) (hn : pc + 3 = pc') (hk : k < N) (ht : zTag (ty k) = 0) (hw : Cond.fieldLink M.1.cls idx C (T k).2.1 (T k).2.2.1 ∈ lw_tbl) (hT : (T k).1 = C) (ho : zOb G h a ci) (K : zV G d M kc ks pc' ls (.int (h.1 a k) :: st) h Q) : zV G d M kc ks pc ls (.ref a :: st) h Q := by
  subst hn
  intro p l e R s m args below meth c H locs cells slots la X hA hS hc hs hl
  have hts : ∀ w ∈ u_ws C T N, w.before args s = true := fun w hw => X.2.2.2.2.2.2.2.1.1 args w (hC.2.2.1 w hw).1 (hC.2.2.1 w hw).2
  refine va_get X.1 X.2.1 hts (fun _ q => q) X.2.2.2.2.2.1 X.2.2.2.2.2.2.2.1.2.2.2.1 (hA.one ho.1 ho.2.1 (by rw [ho.2.2]; have := hC.2.1; omega)) 0 (ci := ci) (fs := zFs h a (zTy ci)) ?_ hC.1 k hk (X.2.2.2.2.2.2.2.1.1 _ _ hw rfl) (fun x hx => by rw [hT] at hx; exact hx) (v := .int (h.1 a k)) ?_ hd (K p l e R s m args below meth c H locs cells slots la X hA hS hc hs hl)
  · show some (a, zCell G h a) = _; rw [zCell_ob ho.2.2 hC.2.1]
  · rw [zFs_at hC hk, ht]; rfl
theorem zGetJ {G : zG} {d kc ks pc : Nat} {M : zM} {ls : List (Nat × Value)} {st : List Value} {h : zH} {Q : Option Value → zH → Prop} {a : Nat} (ci k idx : Nat) {C : String} {T : u_T} {N : Nat} {ty : Nat → FieldType} (hC : zCls ci C T N ty) (pc' : Nat) (hd : decode M.2.1 pc = .ok (.getfield idx, 3)) (hn : pc + 3 = pc') (hk : k < N) (ht : zTag (ty k) = 1) (hw : Cond.fieldLink M.1.cls idx C (T k).2.1 (T k).2.2.1 ∈ lw_tbl) (hT : (T k).1 = C) (ho : zOb G h a ci) (K : zV G d M kc ks pc' ls (.long (h.2.1 a k) :: st) h Q) : zV G d M kc ks pc ls (.ref a :: st) h Q := by
  subst hn
  intro p l e R s m args below meth c H locs cells slots la X hA hS hc hs hl
  have hts : ∀ w ∈ u_ws C T N, w.before args s = true := fun w hw => X.2.2.2.2.2.2.2.1.1 args w (hC.2.2.1 w hw).1 (hC.2.2.1 w hw).2
  refine va_get X.1 X.2.1 hts (fun _ q => q) X.2.2.2.2.2.1 X.2.2.2.2.2.2.2.1.2.2.2.1 (hA.one ho.1 ho.2.1 (by rw [ho.2.2]; have := hC.2.1; omega)) 0 (ci := ci) (fs := zFs h a (zTy ci)) ?_ hC.1 k hk (X.2.2.2.2.2.2.2.1.1 _ _ hw rfl) (fun x hx => by rw [hT] at hx; exact hx) (v := .long (h.2.1 a k)) ?_ hd (K p l e R s m args below meth c H locs cells slots la X hA hS hc hs hl)
  · show some (a, zCell G h a) = _; rw [zCell_ob ho.2.2 hC.2.1]
  · rw [zFs_at hC hk, ht]; rfl
theorem zGetR {G : zG} {d kc ks pc : Nat} {M : zM} {ls : List (Nat × Value)} {st : List Value} {h : zH} {Q : Option Value → zH → Prop} {a : Nat} (ci k idx : Nat) {C : String} {T : u_T} {N : Nat} {ty : Nat → FieldType} (hC : zCls ci C T N ty) (pc' : Nat) (hd : decode M.2.1 pc = .ok (.getfield idx, 3)) (hn : pc + 3 = pc') (hk : k < N) (ht : zTag (ty k) = 2) (hw : Cond.fieldLink M.1.cls idx C (T k).2.1 (T k).2.2.1 ∈ lw_tbl) (hT : (T k).1 = C) (ho : zOb G h a ci) (K : zV G d M kc ks pc' ls (va_rf (h.2.2.1 a k) :: st) h Q) : zV G d M kc ks pc ls (.ref a :: st) h Q := by
  subst hn
  intro p l e R s m args below meth c H locs cells slots la X hA hS hc hs hl
  have hts : ∀ w ∈ u_ws C T N, w.before args s = true := fun w hw => X.2.2.2.2.2.2.2.1.1 args w (hC.2.2.1 w hw).1 (hC.2.2.1 w hw).2
  refine va_get X.1 X.2.1 hts (fun _ q => q) X.2.2.2.2.2.1 X.2.2.2.2.2.2.2.1.2.2.2.1 (hA.one ho.1 ho.2.1 (by rw [ho.2.2]; have := hC.2.1; omega)) 0 (ci := ci) (fs := zFs h a (zTy ci)) ?_ hC.1 k hk (X.2.2.2.2.2.2.2.1.1 _ _ hw rfl) (fun x hx => by rw [hT] at hx; exact hx) (v := va_rf (h.2.2.1 a k)) ?_ hd (K p l e R s m args below meth c H locs cells slots la X hA hS hc hs hl)
  · show some (a, zCell G h a) = _; rw [zCell_ob ho.2.2 hC.2.1]
  · rw [zFs_at hC hk, ht]; rfl
theorem zGetRN {G : zG} {d kc ks pc : Nat} {M : zM} {ls : List (Nat × Value)} {st : List Value} {h : zH} {Q : Option Value → zH → Prop} {a : Nat} (ci k idx : Nat) (host : String) {C : String} {T : u_T} {N : Nat} {ty : Nat → FieldType} (hC : zCls ci C T N ty) (pc' : Nat) (hd : decode M.2.1 pc = .ok (.getfield idx, 3)) (hn : pc + 3 = pc') (hk : k < N) (ht : zTag (ty k) = 2) (hw : Cond.fieldLinkNest M.1.cls idx C (T k).2.1 (T k).2.2.1 host ∈ zNest) (hT : (T k).1 = C) (ho : zOb G h a ci) (K : zV G d M kc ks pc' ls (va_rf (h.2.2.1 a k) :: st) h Q) : zV G d M kc ks pc ls (.ref a :: st) h Q := by
  subst hn
  intro p l e R s m args below meth c H locs cells slots la X hA hS hc hs hl
  have hts : ∀ w ∈ u_ws C T N, w.before args s = true := fun w hw => X.2.2.2.2.2.2.2.1.1 args w (hC.2.2.1 w hw).1 (hC.2.2.1 w hw).2
  refine va_getN X.1 X.2.1 hts (fun _ q => q) X.2.2.2.2.2.1 X.2.2.2.2.2.2.2.1.2.2.2.1 (hA.one ho.1 ho.2.1 (by rw [ho.2.2]; have := hC.2.1; omega)) 0 (ci := ci) (fs := zFs h a (zTy ci)) ?_ hC.1 k hk (va_Nw.use rfl (X.2.2.2.2.2.2.2.1.2.1.1 _ hw)) (fun x hx => by rw [hT] at hx; exact hx) (v := va_rf (h.2.2.1 a k)) ?_ hd (K p l e R s m args below meth c H locs cells slots la X hA hS hc hs hl)
  · show some (a, zCell G h a) = _; rw [zCell_ob ho.2.2 hC.2.1]
  · rw [zFs_at hC hk, ht]; rfl
/-- a field of an object of ours: where it lies, and the object with another value there -/
theorem zFld {G : zG} {h : zH} {H : Heap} {s : State} {a ci k : Nat} {C : String} {T : u_T} {N : Nat} {ty : Nat → FieldType} (args : Array Value) (hC : zCls ci C T N ty) (hB : zTab s) (hK : va_K G.2.1 zCl (zTT G) s) (hA : zAt G h H) (ho : zOb G h a ci) (hk : k < N) :
    ∃ (b : Cell) (kC : Class) (cf : Nat) (kf : Class) (fi : Nat) (fd : Field), s.fieldFound? (T k).1 (T k).2.1 (T k).2.2.1 = some (cf, kf, fi, fd) ∧ fd.isStatic = false ∧ s.vm.findClass C = some b.cls ∧ s.vm.classes[b.cls]? = some kC ∧ kC.kind = .ordinary ∧ H[a]? = some b ∧ b.vm = .none ∧ fd.slot < b.slots.size ∧
      ∀ (v : Value) (H1 : Heap), H1[a]? = some (b.setSlot fd.slot v) → va_at G.2.1 zCl (a, .inr (ci, (zFs h a (zTy ci)).set k v)) H1 := by
  have hw : ∀ w ∈ u_ws C T N, w.before args s = true := fun w q => hB args w (hC.2.2.1 w q).1 (hC.2.2.1 w q).2
  have hlen : k < (zFs h a (zTy ci)).length := by rw [zFs_len, hC.2.2.2.2.2]; simpa [zTys] using hk
  have hat := hA.1 a ho.1 ho.2.1 (by rw [ho.2.2]; have := hC.2.1; omega)
  rw [zCell_ob ho.2.2 hC.2.1] at hat
  obtain ⟨x, hx, b, b1, b2, b3, b4⟩ := hat
  cases hx.symm.trans hC.1
  have hKn := hK.1 ci _ hC.1
  obtain ⟨kC, c2, c3⟩ := hKn.2.2
  obtain ⟨cf, kf, fi, fd, d1, d2⟩ := hKn.1 k hk
  refine ⟨b, kC, cf, kf, fi, fd, d1, (u_facts hKn.2.1 c2 (u_lays hw (fun _ q => q) hk) d1).1, by rw [b2]; exact hKn.2.1, by rw [b2]; exact c2, c3, b1, b3, ?_, fun v H1 g => ⟨_, hC.1, _, g, b2, b3, fun j hj => ?_⟩⟩
  · have q := b4 k hk
    rw [← d2] at q
    exact (Array.getElem?_eq_some_iff.mp q).1
  · have q := t_set b4 (va_apart hw (fun _ q => q) ty hC.2.2.2.1 hC.2.2.2.2.1 hK hC.1 (own := C)) hk v j hj
    rw [vp_updV_set hlen, ← d2] at q
    exact q
/-- any field, final or not -/
theorem zPutV {G : zG} {d kc ks pc : Nat} {M : zM} {ls : List (Nat × Value)} {st : List Value} {h : zH} {Q : Option Value → zH → Prop} {h' : zH} {a : Nat} {v : Value} (ci k idx : Nat) {C : String} {T : u_T} {N : Nat} {ty : Nat → FieldType} (hC : zCls ci C T N ty) (pc' : Nat) (hd : decode M.2.1 pc = .ok (.putfield idx, 3)) (hn : pc + 3 = pc') (hk : k < N) (hw : Cond.fieldLink M.1.cls idx C (T k).2.1 (T k).2.2.1 ∈ lw_tbl) (hT : (T k).1 = C) (hf : (T k).2.2.2 = false ∨ ((T k).2.2.2 = true ∧ M.1.name = "<init>" ∧ C = M.1.cls)) (hv : zFit (ty k) v) (ho : zOb G h a ci)
    (g1 : h'.2.2.2.2 = h.2.2.2.2) (g2 : h'.2.2.2.1 = h.2.2.2.1) (g3 : ∀ b, b ≠ a → zCell G h' b = zCell G h b) (g4 : (zFs h a (zTy ci)).set k v = zFs h' a (zTy ci)) (K : zV G d M kc ks pc' ls st h' Q) : zV G d M kc ks pc ls (v :: .ref a :: st) h Q := by
  subst hn
  intro p l e R s m args below meth c H locs cells slots la X hA hS hc hs hl
  obtain ⟨b, kC, cf, kf, fi, fd, d1, d2, d3, d4, d5, d6, d7, d8, d9⟩ := zFld args hC X.2.2.2.2.2.2.2.1.1 X.2.2.2.2.2.2.2.1.2.2.2.1 hA ho hk
  have d0 : s.fieldFound? C (T k).2.1 (T k).2.2.1 = some (cf, kf, fi, fd) := by have q := d1; rw [hT] at q; exact q
  have hly := X.2.2.2.2.2.2.2.1.1 args _ (hC.2.2.1 _ (u_in_lay hk)).1 (hC.2.2.1 _ (u_in_lay hk)).2
  have go : ∀ H1 : Heap, H1[a]? = some (b.setSlot fd.slot v) → H1.size = H.size → (∀ q, q ≠ a → H1[q]? = H[q]?) → W p l e R s m args below meth c H1 (locs ++ [⟨a, fd.slot⟩]) cells slots (MQ below (zQc G Q) args s R.cells R.slots (zA G)) (F0 m (pc + 3) la st) := fun H1 r1 r2 r3 =>
    K p l e R s m args below meth c H1 _ cells slots la X (zAt.set (h := h) hA r2 (d9 v H1 r1) r3 g1 g2 g3 (by rw [zCell_ob (h := h') (by rw [g2]; exact ho.2.2) hC.2.1, g4])) (hS.put r2 r3 ho.1) hc hs hl
  rcases hf with hf | ⟨hf, hf1, hf2⟩
  · rw [u_lay, hf, if_neg (by decide)] at hly
    exact W.putK X.1 X.2.1 ⟨X.2.2.2.2.2.1, X.2.2.2.2.2.2.2.1.1 _ _ hw rfl, ⟨cf, kf, fi, d0⟩, d2⟩ (u_store d3 d4 d5 hly d1 (hC.2.2.2.1 k hk) hv.1 hv.2) d6 d7 d8 rfl rfl hd go
  · rw [u_lay, hf, if_pos rfl] at hly
    have hcf : m.cls = cf := by
      obtain ⟨_, _, y, _, _, _, -, -, y1, -, -, -, y2, -⟩ := Cond.laysFinal_spec hly
      cases d1.symm.trans y1
      rw [hT, hf2] at y2
      exact Option.some.inj (X.2.2.2.2.2.1.symm.trans y2)
    exact W.putFinK X.1 X.2.1 X.2.2.2.2.2.1 (X.2.2.2.2.2.2.2.1.1 _ _ hw rfl) d0 d2 hcf (X.2.2.2.2.2.2.1.trans hf1) (u_fits d3 d4 d5 (Or.inr hly) d1 (hC.2.2.2.1 k hk) hv.1 hv.2) d6 d7 d8 rfl rfl hd go
theorem zPutI {G : zG} {d kc ks pc : Nat} {M : zM} {ls : List (Nat × Value)} {st : List Value} {h : zH} {Q : Option Value → zH → Prop} {a : Nat} {v : Int32} (ci k idx : Nat) {C : String} {T : u_T} {N : Nat} {ty : Nat → FieldType} (hC : zCls ci C T N ty) (pc' : Nat) (hd : decode M.2.1 pc = .ok (.putfield idx, 3)) (hn : pc + 3 = pc') (hk : k < N) (ht : zTag (ty k) = 0) (hw : Cond.fieldLink M.1.cls idx C (T k).2.1 (T k).2.2.1 ∈ lw_tbl) (hf : (T k).2.2.2 = false) (hT : (T k).1 = C) (hv : zFit (ty k) (.int v)) (ho : zOb G h a ci) (K : zV G d M kc ks pc' ls st (zU h.1 a k v, h.2) Q) : zV G d M kc ks pc ls (.int v :: .ref a :: st) h Q := by
  refine zPutV (h' := (zU h.1 a k v, h.2)) ci k idx hC pc' hd hn hk hw hT (Or.inl hf) hv ho rfl rfl (fun b hb => zCell_I (zU_off hb)) ?_ K
  have q := zFs_set (h := h) (h' := (zU h.1 a k v, h.2)) (a := a) (show (zTy ci)[k]? = some 0 by rw [hC.2.2.2.2.2, zTys_get hk, ht]) (fun j t hj => by simp [zVal, zU, hj])
  rw [show zVal (zU h.1 a k v, h.2) a k 0 = .int v by simp [zVal, zU]] at q
  exact q
theorem zPutFI {G : zG} {d kc ks pc : Nat} {M : zM} {ls : List (Nat × Value)} {st : List Value} {h : zH} {Q : Option Value → zH → Prop} {a : Nat} {v : Int32} (ci k idx : Nat) {C : String} {T : u_T} {N : Nat} {ty : Nat → FieldType} (hC : zCls ci C T N ty) (pc' : Nat) (hd : decode M.2.1 pc = .ok (.putfield idx, 3)) (hn : pc + 3 = pc') (hk : k < N) (ht : zTag (ty k) = 0) (hw : Cond.fieldLink M.1.cls idx C (T k).2.1 (T k).2.2.1 ∈ lw_tbl) (hf : (T k).2.2.2 = true) (hi : M.1.name = "<init>") (hT : (T k).1 = C) (hO : C = M.1.cls) (hv : zFit (ty k) (.int v)) (ho : zOb G h a ci) (K : zV G d M kc ks pc' ls st (zU h.1 a k v, h.2) Q) : zV G d M kc ks pc ls (.int v :: .ref a :: st) h Q := by
  refine zPutV (h' := (zU h.1 a k v, h.2)) ci k idx hC pc' hd hn hk hw hT (Or.inr ⟨hf, hi, hO⟩) hv ho rfl rfl (fun b hb => zCell_I (zU_off hb)) ?_ K
  have q := zFs_set (h := h) (h' := (zU h.1 a k v, h.2)) (a := a) (show (zTy ci)[k]? = some 0 by rw [hC.2.2.2.2.2, zTys_get hk, ht]) (fun j t hj => by simp [zVal, zU, hj])
  rw [show zVal (zU h.1 a k v, h.2) a k 0 = .int v by simp [zVal, zU]] at q
  exact q
theorem zPutJ {G : zG} {d kc ks pc : Nat} {M : zM} {ls : List (Nat × Value)} {st : List Value} {h : zH} {Q : Option Value → zH → Prop} {a : Nat} {v : Int64} (ci k idx : Nat) {C : String} {T : u_T} {N : Nat} {ty : Nat → FieldType} (hC : zCls ci C T N ty) (pc' : Nat) (hd : decode M.2.1 pc = .ok (.putfield idx, 3)) (hn : pc + 3 = pc') (hk : k < N) (ht : zTag (ty k) = 1) (hw : Cond.fieldLink M.1.cls idx C (T k).2.1 (T k).2.2.1 ∈ lw_tbl) (hf : (T k).2.2.2 = false) (hT : (T k).1 = C) (hv : zFit (ty k) (.long v)) (ho : zOb G h a ci) (K : zV G d M kc ks pc' ls st (h.1, zU h.2.1 a k v, h.2.2) Q) : zV G d M kc ks pc ls (.long v :: .ref a :: st) h Q := by
  refine zPutV (h' := (h.1, zU h.2.1 a k v, h.2.2)) ci k idx hC pc' hd hn hk hw hT (Or.inl hf) hv ho rfl rfl (fun b hb => zCell_J (zU_off hb)) ?_ K
  have q := zFs_set (h := h) (h' := (h.1, zU h.2.1 a k v, h.2.2)) (a := a) (show (zTy ci)[k]? = some 1 by rw [hC.2.2.2.2.2, zTys_get hk, ht]) (fun j t hj => by simp [zVal, zU, hj])
  rw [show zVal (h.1, zU h.2.1 a k v, h.2.2) a k 1 = .long v by simp [zVal, zU]] at q
  exact q
theorem zPutFJ {G : zG} {d kc ks pc : Nat} {M : zM} {ls : List (Nat × Value)} {st : List Value} {h : zH} {Q : Option Value → zH → Prop} {a : Nat} {v : Int64} (ci k idx : Nat) {C : String} {T : u_T} {N : Nat} {ty : Nat → FieldType} (hC : zCls ci C T N ty) (pc' : Nat) (hd : decode M.2.1 pc = .ok (.putfield idx, 3)) (hn : pc + 3 = pc') (hk : k < N) (ht : zTag (ty k) = 1) (hw : Cond.fieldLink M.1.cls idx C (T k).2.1 (T k).2.2.1 ∈ lw_tbl) (hf : (T k).2.2.2 = true) (hi : M.1.name = "<init>") (hT : (T k).1 = C) (hO : C = M.1.cls) (hv : zFit (ty k) (.long v)) (ho : zOb G h a ci) (K : zV G d M kc ks pc' ls st (h.1, zU h.2.1 a k v, h.2.2) Q) : zV G d M kc ks pc ls (.long v :: .ref a :: st) h Q := by
  refine zPutV (h' := (h.1, zU h.2.1 a k v, h.2.2)) ci k idx hC pc' hd hn hk hw hT (Or.inr ⟨hf, hi, hO⟩) hv ho rfl rfl (fun b hb => zCell_J (zU_off hb)) ?_ K
  have q := zFs_set (h := h) (h' := (h.1, zU h.2.1 a k v, h.2.2)) (a := a) (show (zTy ci)[k]? = some 1 by rw [hC.2.2.2.2.2, zTys_get hk, ht]) (fun j t hj => by simp [zVal, zU, hj])
  rw [show zVal (h.1, zU h.2.1 a k v, h.2.2) a k 1 = .long v by simp [zVal, zU]] at q
  exact q
theorem zPutR {G : zG} {d kc ks pc : Nat} {M : zM} {ls : List (Nat × Value)} {st : List Value} {h : zH} {Q : Option Value → zH → Prop} {a : Nat} {v : Option Nat} (ci k idx : Nat) {C : String} {T : u_T} {N : Nat} {ty : Nat → FieldType} (hC : zCls ci C T N ty) (pc' : Nat) (hd : decode M.2.1 pc = .ok (.putfield idx, 3)) (hn : pc + 3 = pc') (hk : k < N) (ht : zTag (ty k) = 2) (hw : Cond.fieldLink M.1.cls idx C (T k).2.1 (T k).2.2.1 ∈ lw_tbl) (hf : (T k).2.2.2 = false) (hT : (T k).1 = C) (hv : zFit (ty k) (va_rf v)) (ho : zOb G h a ci) (K : zV G d M kc ks pc' ls st (h.1, h.2.1, zU h.2.2.1 a k v, h.2.2.2) Q) : zV G d M kc ks pc ls (va_rf v :: .ref a :: st) h Q := by
  refine zPutV (h' := (h.1, h.2.1, zU h.2.2.1 a k v, h.2.2.2)) ci k idx hC pc' hd hn hk hw hT (Or.inl hf) hv ho rfl rfl (fun b hb => zCell_R (zU_off hb)) ?_ K
  have q := zFs_set (h := h) (h' := (h.1, h.2.1, zU h.2.2.1 a k v, h.2.2.2)) (a := a) (show (zTy ci)[k]? = some 2 by rw [hC.2.2.2.2.2, zTys_get hk, ht]) (fun j t hj => by simp [zVal, zU, hj])
  rw [show zVal (h.1, h.2.1, zU h.2.2.1 a k v, h.2.2.2) a k 2 = va_rf v by simp [zVal, zU]] at q
  exact q
theorem zPutFR {G : zG} {d kc ks pc : Nat} {M : zM} {ls : List (Nat × Value)} {st : List Value} {h : zH} {Q : Option Value → zH → Prop} {a : Nat} {v : Option Nat} (ci k idx : Nat) {C : String} {T : u_T} {N : Nat} {ty : Nat → FieldType} (hC : zCls ci C T N ty) (pc' : Nat) (hd : decode M.2.1 pc = .ok (.putfield idx, 3)) (hn : pc + 3 = pc') (hk : k < N) (ht : zTag (ty k) = 2) (hw : Cond.fieldLink M.1.cls idx C (T k).2.1 (T k).2.2.1 ∈ lw_tbl) (hf : (T k).2.2.2 = true) (hi : M.1.name = "<init>") (hT : (T k).1 = C) (hO : C = M.1.cls) (hv : zFit (ty k) (va_rf v)) (ho : zOb G h a ci) (K : zV G d M kc ks pc' ls st (h.1, h.2.1, zU h.2.2.1 a k v, h.2.2.2) Q) : zV G d M kc ks pc ls (va_rf v :: .ref a :: st) h Q := by
  refine zPutV (h' := (h.1, h.2.1, zU h.2.2.1 a k v, h.2.2.2)) ci k idx hC pc' hd hn hk hw hT (Or.inr ⟨hf, hi, hO⟩) hv ho rfl rfl (fun b hb => zCell_R (zU_off hb)) ?_ K
  have q := zFs_set (h := h) (h' := (h.1, h.2.1, zU h.2.2.1 a k v, h.2.2.2)) (a := a) (show (zTy ci)[k]? = some 2 by rw [hC.2.2.2.2.2, zTys_get hk, ht]) (fun j t hj => by simp [zVal, zU, hj])
  rw [show zVal (h.1, h.2.1, zU h.2.2.1 a k v, h.2.2.2) a k 2 = va_rf v by simp [zVal, zU]] at q
  exact q
