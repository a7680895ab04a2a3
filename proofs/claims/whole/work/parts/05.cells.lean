theorem zIaload {G : zG} {d kc ks pc : Nat} {M : zM} {ls : List (Nat × Value)} {st : List Value} {h : zH} {Q : Option Value → zH → Prop} {a : Nat} {i : Int32} (n pc' : Nat) (hd : decode M.2.1 pc = .ok (.iaload, 1)) (hn : pc + 1 = pc') (ha : zAr G h a 32 n) (hin : vp_in i n) (K : zV G d M kc ks pc' ls (.int (h.1 a i.toNatClampNeg) :: st) h Q) : zV G d M kc ks pc ls (.int i :: .ref a :: st) h Q := by
  subst hn
  intro p l e R s m args below meth c H locs cells slots la X hA hS hc hs hl
  exact va_iald X.1 X.2.1 X.2.2.2.2.2.2.2.1.2.2.2.1 (hA.one ha.1 ha.2.1 (by rw [ha.2.2]; simp)) 0 0 (cA := G.2.2.1 0) (n := n) (f := h.1 a) (by show some (a, zCell G h a) = _; rw [zCell_i ha.2.2 (by decide) (by decide)]) rfl hin hd (K p l e R s m args below meth c H locs cells slots la X hA hS hc hs hl)
theorem zBaload {G : zG} {d kc ks pc : Nat} {M : zM} {ls : List (Nat × Value)} {st : List Value} {h : zH} {Q : Option Value → zH → Prop} {a : Nat} {i : Int32} (n pc' : Nat) (hd : decode M.2.1 pc = .ok (.baload, 1)) (hn : pc + 1 = pc') (ha : zAr G h a 33 n) (hin : vp_in i n) (K : zV G d M kc ks pc' ls (.int (h.1 a i.toNatClampNeg) :: st) h Q) : zV G d M kc ks pc ls (.int i :: .ref a :: st) h Q := by
  subst hn
  intro p l e R s m args below meth c H locs cells slots la X hA hS hc hs hl
  exact va_bald X.1 X.2.1 X.2.2.2.2.2.2.2.1.2.2.2.1 (hA.one ha.1 ha.2.1 (by rw [ha.2.2]; simp)) 0 1 (cA := G.2.2.1 1) (n := n) (f := h.1 a) (by show some (a, zCell G h a) = _; rw [zCell_i ha.2.2 (by decide) (by decide)]) rfl hin hd (K p l e R s m args below meth c H locs cells slots la X hA hS hc hs hl)
theorem zZaload {G : zG} {d kc ks pc : Nat} {M : zM} {ls : List (Nat × Value)} {st : List Value} {h : zH} {Q : Option Value → zH → Prop} {a : Nat} {i : Int32} (n pc' : Nat) (hd : decode M.2.1 pc = .ok (.baload, 1)) (hn : pc + 1 = pc') (ha : zAr G h a 34 n) (hin : vp_in i n) (K : zV G d M kc ks pc' ls (.int (h.1 a i.toNatClampNeg) :: st) h Q) : zV G d M kc ks pc ls (.int i :: .ref a :: st) h Q := by
  subst hn
  intro p l e R s m args below meth c H locs cells slots la X hA hS hc hs hl
  exact va_zald X.1 X.2.1 X.2.2.2.2.2.2.2.1.2.2.2.1 (hA.one ha.1 ha.2.1 (by rw [ha.2.2]; simp)) 0 2 (cA := G.2.2.1 2) (n := n) (f := h.1 a) (by show some (a, zCell G h a) = _; rw [zCell_i ha.2.2 (by decide) (by decide)]) rfl hin hd (K p l e R s m args below meth c H locs cells slots la X hA hS hc hs hl)
theorem zLaload {G : zG} {d kc ks pc : Nat} {M : zM} {ls : List (Nat × Value)} {st : List Value} {h : zH} {Q : Option Value → zH → Prop} {a : Nat} {i : Int32} (n pc' : Nat) (hd : decode M.2.1 pc = .ok (.laload, 1)) (hn : pc + 1 = pc') (ha : zAr G h a 35 n) (hin : vp_in i n) (K : zV G d M kc ks pc' ls (.long (h.2.1 a i.toNatClampNeg) :: st) h Q) : zV G d M kc ks pc ls (.int i :: .ref a :: st) h Q := by
  subst hn
  intro p l e R s m args below meth c H locs cells slots la X hA hS hc hs hl
  exact va_lald X.1 X.2.1 X.2.2.2.2.2.2.2.1.2.2.2.1 (hA.one ha.1 ha.2.1 (by rw [ha.2.2]; simp)) 0 3 (cA := G.2.2.1 3) (n := n) (f := h.2.1 a) (by show some (a, zCell G h a) = _; rw [zCell_j ha.2.2]) rfl hin hd (K p l e R s m args below meth c H locs cells slots la X hA hS hc hs hl)
theorem zAaloadG {G : zG} {d kc ks pc : Nat} {M : zM} {ls : List (Nat × Value)} {st : List Value} {h : zH} {Q : Option Value → zH → Prop} {a : Nat} {i : Int32} (n pc' : Nat) (hd : decode M.2.1 pc = .ok (.aaload, 1)) (hn : pc + 1 = pc') (ha : zAr G h a 36 n) (hin : vp_in i n) (K : zV G d M kc ks pc' ls (va_rf (h.2.2.1 a i.toNatClampNeg) :: st) h Q) : zV G d M kc ks pc ls (.int i :: .ref a :: st) h Q := by
  subst hn
  intro p l e R s m args below meth c H locs cells slots la X hA hS hc hs hl
  have hlt : i.toNatClampNeg < n := Nat.not_le.mp fun q => hin (Or.inr q)
  have hc0 : H[a]? = some (vp_cell (G.2.2.1 4) (n, .inr (.inr (.inr (.inr (h.2.2.1 a)))))) := by have q := hA.1 a ha.1 ha.2.1 (by rw [ha.2.2]; simp); rw [zCell_r ha.2.2 (by decide)] at q; exact q
  exact W.aald (v := va_rf (h.2.2.1 a i.toNatClampNeg)) (ty := .array .int) X.1 X.2.1 hc0 ((X.2.2.2.2.2.2.2.1.2.2.2.1.2 4 (G.2.2.1 4, .array .int) rfl).1 n (fun j => va_rf (h.2.2.1 a j))) rfl (fun q => by cases q) (by show ¬ (i < 0 ∨ (arrV _ _ _).slots.size ≤ _); rw [arrV_size]; exact hin) (by show (arrV _ _ _).slots[_]? = _; rw [arrV_read _ _ hlt]) rfl rfl hd (K p l e R s m args below meth c H locs cells slots la X hA hS hc hs hl)
theorem zAaloadL {G : zG} {d kc ks pc : Nat} {M : zM} {ls : List (Nat × Value)} {st : List Value} {h : zH} {Q : Option Value → zH → Prop} {a : Nat} {i : Int32} (n pc' : Nat) (hd : decode M.2.1 pc = .ok (.aaload, 1)) (hn : pc + 1 = pc') (ha : zAr G h a 37 n) (hin : vp_in i n) (K : zV G d M kc ks pc' ls (va_rf (h.2.2.1 a i.toNatClampNeg) :: st) h Q) : zV G d M kc ks pc ls (.int i :: .ref a :: st) h Q := by
  subst hn
  intro p l e R s m args below meth c H locs cells slots la X hA hS hc hs hl
  have hlt : i.toNatClampNeg < n := Nat.not_le.mp fun q => hin (Or.inr q)
  have hc0 : H[a]? = some (vp_cell (G.2.2.1 5) (n, .inr (.inr (.inr (.inr (h.2.2.1 a)))))) := by have q := hA.1 a ha.1 ha.2.1 (by rw [ha.2.2]; simp); rw [zCell_r ha.2.2 (by decide)] at q; exact q
  exact W.aald (v := va_rf (h.2.2.1 a i.toNatClampNeg)) (ty := .object RX2) X.1 X.2.1 hc0 ((X.2.2.2.2.2.2.2.1.2.2.2.1.2 5 (G.2.2.1 5, .object RX2) rfl).1 n (fun j => va_rf (h.2.2.1 a j))) rfl (fun q => by cases q) (by show ¬ (i < 0 ∨ (arrV _ _ _).slots.size ≤ _); rw [arrV_size]; exact hin) (by show (arrV _ _ _).slots[_]? = _; rw [arrV_read _ _ hlt]) rfl rfl hd (K p l e R s m args below meth c H locs cells slots la X hA hS hc hs hl)
theorem zAaloadS {G : zG} {d kc ks pc : Nat} {M : zM} {ls : List (Nat × Value)} {st : List Value} {h : zH} {Q : Option Value → zH → Prop} {a : Nat} {i : Int32} (n pc' : Nat) (hd : decode M.2.1 pc = .ok (.aaload, 1)) (hn : pc + 1 = pc') (ha : zAr G h a 38 n) (hin : vp_in i n) (K : zV G d M kc ks pc' ls (va_rf (h.2.2.1 a i.toNatClampNeg) :: st) h Q) : zV G d M kc ks pc ls (.int i :: .ref a :: st) h Q := by
  subst hn
  intro p l e R s m args below meth c H locs cells slots la X hA hS hc hs hl
  have hlt : i.toNatClampNeg < n := Nat.not_le.mp fun q => hin (Or.inr q)
  have hc0 : H[a]? = some (vp_cell (G.2.2.1 6) (n, .inr (.inr (.inr (.inr (h.2.2.1 a)))))) := by have q := hA.1 a ha.1 ha.2.1 (by rw [ha.2.2]; simp); rw [zCell_r ha.2.2 (by decide)] at q; exact q
  exact W.aald (v := va_rf (h.2.2.1 a i.toNatClampNeg)) (ty := .object RX7) X.1 X.2.1 hc0 ((X.2.2.2.2.2.2.2.1.2.2.2.1.2 6 (G.2.2.1 6, .object RX7) rfl).1 n (fun j => va_rf (h.2.2.1 a j))) rfl (fun q => by cases q) (by show ¬ (i < 0 ∨ (arrV _ _ _).slots.size ≤ _); rw [arrV_size]; exact hin) (by show (arrV _ _ _).slots[_]? = _; rw [arrV_read _ _ hlt]) rfl rfl hd (K p l e R s m args below meth c H locs cells slots la X hA hS hc hs hl)
theorem zU_at {α : Type} (f : Nat → Nat → α) (a k : Nat) (v : α) : zU f a k v a = fun j => if j = k then v else f a j := by
  funext j
  simp [zU]
/-- a row of ours, with another value at one place -/
theorem zRowSt {G : zG} {h h' : zH} {H H1 : Heap} {a n k : Nat} {cA : ClassId} {f : Nat → Value} {v : Value} (x : (Nat → Int32) ⊕ (Nat → Int64) ⊕ (Nat → UInt32) ⊕ (Nat → UInt64) ⊕ (Nat → Option Nat)) (hA : zAt G h H) (r1 : H1[a]? = some ((arrV cA n f).setSlot k v)) (r2 : H1.size = H.size) (r3 : ∀ q : Nat, q ≠ a → H1[q]? = H[q]?)
    (g1 : h'.2.2.2.2 = h.2.2.2.2) (g2 : h'.2.2.2.1 = h.2.2.2.1) (g3 : ∀ b, b ≠ a → zCell G h' b = zCell G h b) (g4 : zCell G h' a = .inl (cA, n, x)) (g5 : vp_cell cA (n, x) = arrV cA n (updV f k v)) : zAt G h' H1 :=
  zAt.set hA r2 (e := .inl (cA, n, x)) (show H1[a]? = some (vp_cell cA (n, x)) by rw [r1, g5, arrV_store]) r3 g1 g2 g3 g4
/-- what the changed function is, place by place -/
theorem zU_val {α : Type} (mk : α → Value) (f : Nat → Nat → α) (a k : Nat) (v : α) : (fun j => mk (zU f a k v a j)) = updV (fun j => mk (f a j)) k (mk v) := by
  funext j
  unfold zU updV
  rw [if_pos rfl]
  split <;> rfl
theorem zIastore {G : zG} {d kc ks pc : Nat} {M : zM} {ls : List (Nat × Value)} {st : List Value} {h : zH} {Q : Option Value → zH → Prop} {a : Nat} {i x : Int32} (n pc' : Nat) (hd : decode M.2.1 pc = .ok (.iastore, 1)) (hn : pc + 1 = pc') (ha : zAr G h a 32 n) (hin : vp_in i n) (K : zV G d M kc ks pc' ls st (zU h.1 a i.toNatClampNeg x, h.2) Q) : zV G d M kc ks pc ls (.int x :: .int i :: .ref a :: st) h Q := by
  subst hn
  intro p l e R s m args below meth c H locs cells slots la X hA hS hc hs hl
  have hat := hA.1 a ha.1 ha.2.1 (by rw [ha.2.2]; simp)
  rw [zCell_i ha.2.2 (by decide) (by decide)] at hat
  refine W.iast (cell := arrV (G.2.2.1 0) n (fun j => .int (h.1 a j))) X.1 X.2.1 hat ((X.2.2.2.2.2.2.2.1.2.2.2.1.2 0 (G.2.2.1 0, .int) rfl).1 n _) (by rintro ⟨⟩) (by rw [arrV_size]; exact hin) rfl rfl hd fun H1 r1 r2 r3 => ?_
  exact K p l e R s m args below meth c H1 _ cells slots la X (zRowSt (h' := (zU h.1 a i.toNatClampNeg x, h.2)) (.inl _) hA r1 r2 r3 rfl rfl (fun b hb => zCell_I (zU_off hb)) (zCell_i (h := (zU h.1 a i.toNatClampNeg x, h.2)) ha.2.2 (by decide) (by decide)) (congrArg (arrV _ n) (zU_val .int h.1 a _ x))) (hS.put r2 r3 ha.1) hc hs hl
theorem zBastore {G : zG} {d kc ks pc : Nat} {M : zM} {ls : List (Nat × Value)} {st : List Value} {h : zH} {Q : Option Value → zH → Prop} {a : Nat} {i x : Int32} (n pc' : Nat) (hd : decode M.2.1 pc = .ok (.bastore, 1)) (hn : pc + 1 = pc') (ha : zAr G h a 33 n) (hin : vp_in i n) (K : zV G d M kc ks pc' ls st (zU h.1 a i.toNatClampNeg (vp_nar .byte x), h.2) Q) : zV G d M kc ks pc ls (.int x :: .int i :: .ref a :: st) h Q := by
  subst hn
  intro p l e R s m args below meth c H locs cells slots la X hA hS hc hs hl
  have hat := hA.1 a ha.1 ha.2.1 (by rw [ha.2.2]; simp)
  rw [zCell_i ha.2.2 (by decide) (by decide)] at hat
  refine W.bast (cell := arrV (G.2.2.1 1) n (fun j => .int (h.1 a j))) X.1 X.2.1 hat ((X.2.2.2.2.2.2.2.1.2.2.2.1.2 1 (G.2.2.1 1, .byte) rfl).1 n _) (by rintro ⟨⟩) (by rw [arrV_size]; exact hin) rfl rfl hd fun H1 r1 r2 r3 => ?_
  exact K p l e R s m args below meth c H1 _ cells slots la X (zRowSt (h' := (zU h.1 a i.toNatClampNeg (vp_nar .byte x), h.2)) (.inl _) hA r1 r2 r3 rfl rfl (fun b hb => zCell_I (zU_off hb)) (zCell_i (h := (zU h.1 a i.toNatClampNeg (vp_nar .byte x), h.2)) ha.2.2 (by decide) (by decide)) (congrArg (arrV _ n) (zU_val .int h.1 a _ (vp_nar .byte x)))) (hS.put r2 r3 ha.1) hc hs hl
theorem zZastore {G : zG} {d kc ks pc : Nat} {M : zM} {ls : List (Nat × Value)} {st : List Value} {h : zH} {Q : Option Value → zH → Prop} {a : Nat} {i x : Int32} (n pc' : Nat) (hd : decode M.2.1 pc = .ok (.bastore, 1)) (hn : pc + 1 = pc') (ha : zAr G h a 34 n) (hin : vp_in i n) (K : zV G d M kc ks pc' ls st (zU h.1 a i.toNatClampNeg (vp_nar .boolean x), h.2) Q) : zV G d M kc ks pc ls (.int x :: .int i :: .ref a :: st) h Q := by
  subst hn
  intro p l e R s m args below meth c H locs cells slots la X hA hS hc hs hl
  have hat := hA.1 a ha.1 ha.2.1 (by rw [ha.2.2]; simp)
  rw [zCell_i ha.2.2 (by decide) (by decide)] at hat
  refine W.zast (cell := arrV (G.2.2.1 2) n (fun j => .int (h.1 a j))) X.1 X.2.1 hat ((X.2.2.2.2.2.2.2.1.2.2.2.1.2 2 (G.2.2.1 2, .boolean) rfl).1 n _) (by rintro ⟨⟩) (by rw [arrV_size]; exact hin) rfl rfl hd fun H1 r1 r2 r3 => ?_
  exact K p l e R s m args below meth c H1 _ cells slots la X (zRowSt (h' := (zU h.1 a i.toNatClampNeg (vp_nar .boolean x), h.2)) (.inl _) hA r1 r2 r3 rfl rfl (fun b hb => zCell_I (zU_off hb)) (zCell_i (h := (zU h.1 a i.toNatClampNeg (vp_nar .boolean x), h.2)) ha.2.2 (by decide) (by decide)) (congrArg (arrV _ n) (zU_val .int h.1 a _ (vp_nar .boolean x)))) (hS.put r2 r3 ha.1) hc hs hl
theorem zLastore {G : zG} {d kc ks pc : Nat} {M : zM} {ls : List (Nat × Value)} {st : List Value} {h : zH} {Q : Option Value → zH → Prop} {a : Nat} {i : Int32} {x : Int64} (n pc' : Nat) (hd : decode M.2.1 pc = .ok (.lastore, 1)) (hn : pc + 1 = pc') (ha : zAr G h a 35 n) (hin : vp_in i n) (K : zV G d M kc ks pc' ls st (h.1, zU h.2.1 a i.toNatClampNeg x, h.2.2) Q) : zV G d M kc ks pc ls (.long x :: .int i :: .ref a :: st) h Q := by
  subst hn
  intro p l e R s m args below meth c H locs cells slots la X hA hS hc hs hl
  have hat := hA.1 a ha.1 ha.2.1 (by rw [ha.2.2]; simp)
  rw [zCell_j ha.2.2] at hat
  refine W.last (cell := arrV (G.2.2.1 3) n (fun j => .long (h.2.1 a j))) X.1 X.2.1 hat ((X.2.2.2.2.2.2.2.1.2.2.2.1.2 3 (G.2.2.1 3, .long) rfl).1 n _) (by rintro ⟨⟩) (by rw [arrV_size]; exact hin) rfl rfl hd fun H1 r1 r2 r3 => ?_
  exact K p l e R s m args below meth c H1 _ cells slots la X (zRowSt (h' := (h.1, zU h.2.1 a i.toNatClampNeg x, h.2.2)) (.inr (.inl _)) hA r1 r2 r3 rfl rfl (fun b hb => zCell_J (zU_off hb)) (zCell_j (h := (h.1, zU h.2.1 a i.toNatClampNeg x, h.2.2)) ha.2.2) (congrArg (arrV _ n) (zU_val .long h.2.1 a _ x))) (hS.put r2 r3 ha.1) hc hs hl
theorem zAastoreL {G : zG} {d kc ks pc : Nat} {M : zM} {ls : List (Nat × Value)} {st : List Value} {h : zH} {Q : Option Value → zH → Prop} {a v : Nat} {i : Int32} (n pc' : Nat) (hd : decode M.2.1 pc = .ok (.aastore, 1)) (hn : pc + 1 = pc') (ha : zAr G h a 37 n) (hv : zOb G h v 2) (hin : vp_in i n) (K : zV G d M kc ks pc' ls st (h.1, h.2.1, zU h.2.2.1 a i.toNatClampNeg (some v), h.2.2.2) Q) : zV G d M kc ks pc ls (.ref v :: .int i :: .ref a :: st) h Q := by
  subst hn
  intro p l e R s m args below meth c H locs cells slots la X hA hS hc hs hl
  have hat := hA.1 a ha.1 ha.2.1 (by rw [ha.2.2]; simp)
  rw [zCell_r ha.2.2 (by decide)] at hat
  have hob := hA.1 v hv.1 hv.2.1 (by rw [hv.2.2]; decide)
  rw [zCell_ob hv.2.2 (by decide)] at hob
  obtain ⟨-, -, b, b1, b2, b3, -⟩ := hob
  have hcl := (X.2.2.2.2.2.2.2.1.2.2.2.1.1 2 _ rfl).2
  obtain ⟨kA, w, w1, w2, w3, -⟩ := (X.2.2.2.2.2.2.2.1.2.2.2.1.2 5 (G.2.2.1 5, .object RX2) rfl).2
  cases w3.symm.trans hcl.1
  obtain ⟨kC, c1, -⟩ := hcl.2
  have hi : ¬ i < 0 ∧ i.toNatClampNeg < n := ⟨fun q => hin (.inl q), by have q : ¬ n ≤ i.toNatClampNeg := fun q => hin (.inr q); omega⟩
  refine W.aast (cell := arrV (G.2.2.1 5) n (fun j => va_rf (h.2.2.1 a j))) (cv := b) X.1 X.2.1 hat (by rintro _ ⟨⟩) (by rintro ⟨⟩) w1 w2 rfl c1 (by rw [arrV_size]; exact hi) b1 (by rw [b3]; rintro _ ⟨⟩) (kv := kC) (by rw [b2]; exact c1) (by rw [b2]; exact va_assign hcl) rfl rfl hd fun H1 r1 r2 r3 => ?_
  exact K p l e R s m args below meth c H1 _ cells slots la X (zRowSt (h' := (h.1, h.2.1, zU h.2.2.1 a i.toNatClampNeg (some v), h.2.2.2)) (.inr (.inr (.inr (.inr _)))) hA r1 r2 r3 rfl rfl (fun b hb => zCell_R (zU_off hb)) (zCell_r (h := (h.1, h.2.1, zU h.2.2.1 a i.toNatClampNeg (some v), h.2.2.2)) ha.2.2 (by decide)) (congrArg (arrV _ n) (zU_val va_rf h.2.2.1 a _ (some v)))) (hS.put r2 r3 ha.1) hc hs hl
theorem zAastoreS {G : zG} {d kc ks pc : Nat} {M : zM} {ls : List (Nat × Value)} {st : List Value} {h : zH} {Q : Option Value → zH → Prop} {a v : Nat} {i : Int32} (n pc' : Nat) (hd : decode M.2.1 pc = .ok (.aastore, 1)) (hn : pc + 1 = pc') (ha : zAr G h a 38 n) (hv : zOb G h v 7) (hin : vp_in i n) (K : zV G d M kc ks pc' ls st (h.1, h.2.1, zU h.2.2.1 a i.toNatClampNeg (some v), h.2.2.2) Q) : zV G d M kc ks pc ls (.ref v :: .int i :: .ref a :: st) h Q := by
  subst hn
  intro p l e R s m args below meth c H locs cells slots la X hA hS hc hs hl
  have hat := hA.1 a ha.1 ha.2.1 (by rw [ha.2.2]; simp)
  rw [zCell_r ha.2.2 (by decide)] at hat
  have hob := hA.1 v hv.1 hv.2.1 (by rw [hv.2.2]; decide)
  rw [zCell_ob hv.2.2 (by decide)] at hob
  obtain ⟨-, -, b, b1, b2, b3, -⟩ := hob
  have hcl := (X.2.2.2.2.2.2.2.1.2.2.2.1.1 7 _ rfl).2
  obtain ⟨kA, w, w1, w2, w3, -⟩ := (X.2.2.2.2.2.2.2.1.2.2.2.1.2 6 (G.2.2.1 6, .object RX7) rfl).2
  cases w3.symm.trans hcl.1
  obtain ⟨kC, c1, -⟩ := hcl.2
  have hi : ¬ i < 0 ∧ i.toNatClampNeg < n := ⟨fun q => hin (.inl q), by have q : ¬ n ≤ i.toNatClampNeg := fun q => hin (.inr q); omega⟩
  refine W.aast (cell := arrV (G.2.2.1 6) n (fun j => va_rf (h.2.2.1 a j))) (cv := b) X.1 X.2.1 hat (by rintro _ ⟨⟩) (by rintro ⟨⟩) w1 w2 rfl c1 (by rw [arrV_size]; exact hi) b1 (by rw [b3]; rintro _ ⟨⟩) (kv := kC) (by rw [b2]; exact c1) (by rw [b2]; exact va_assign hcl) rfl rfl hd fun H1 r1 r2 r3 => ?_
  exact K p l e R s m args below meth c H1 _ cells slots la X (zRowSt (h' := (h.1, h.2.1, zU h.2.2.1 a i.toNatClampNeg (some v), h.2.2.2)) (.inr (.inr (.inr (.inr _)))) hA r1 r2 r3 rfl rfl (fun b hb => zCell_R (zU_off hb)) (zCell_r (h := (h.1, h.2.1, zU h.2.2.1 a i.toNatClampNeg (some v), h.2.2.2)) ha.2.2 (by decide)) (congrArg (arrV _ n) (zU_val va_rf h.2.2.1 a _ (some v)))) (hS.put r2 r3 ha.1) hc hs hl
theorem zAlenI {G : zG} {d kc ks pc : Nat} {M : zM} {ls : List (Nat × Value)} {st : List Value} {h : zH} {Q : Option Value → zH → Prop} {a : Nat} (kd n pc' : Nat) (hd : decode M.2.1 pc = .ok (.arraylength, 1)) (hn : pc + 1 = pc') (h1 : 32 ≤ kd) (h2 : kd < 35) (ha : zAr G h a kd n) (K : zV G d M kc ks pc' ls (.int (nI n) :: st) h Q) : zV G d M kc ks pc ls (.ref a :: st) h Q := by
  subst hn
  intro p l e R s m args below meth c H locs cells slots la X hA hS hc hs hl
  have ht : ∃ ty, (zTT G)[kd - 32]? = some (G.2.2.1 (kd - 32), ty) := by
    rcases (show kd - 32 = 0 ∨ kd - 32 = 1 ∨ kd - 32 = 2 by omega) with q | q | q <;> rw [q] <;> exact ⟨_, rfl⟩
  obtain ⟨ty, ht⟩ := ht
  exact va_alen X.1 X.2.1 X.2.2.2.2.2.2.2.1.2.2.2.1 (hA.one ha.1 ha.2.1 (by rw [ha.2.2]; show kd ≠ 99; omega)) 0 (kd - 32) (cA := G.2.2.1 (kd - 32)) (x := (n, .inl (h.1 a))) (by show some (a, zCell G h a) = _; rw [zCell_i ha.2.2 h1 h2]) ht rfl hd (K p l e R s m args below meth c H locs cells slots la X hA hS hc hs hl)
theorem zAlenR {G : zG} {d kc ks pc : Nat} {M : zM} {ls : List (Nat × Value)} {st : List Value} {h : zH} {Q : Option Value → zH → Prop} {a : Nat} (kd n pc' : Nat) (hd : decode M.2.1 pc = .ok (.arraylength, 1)) (hn : pc + 1 = pc') (h1 : 36 ≤ kd) (h2 : kd < 39) (ha : zAr G h a kd n) (K : zV G d M kc ks pc' ls (.int (nI n) :: st) h Q) : zV G d M kc ks pc ls (.ref a :: st) h Q := by
  subst hn
  intro p l e R s m args below meth c H locs cells slots la X hA hS hc hs hl
  have ht : ∃ ty, (zTT G)[kd - 32]? = some (G.2.2.1 (kd - 32), ty) := by
    rcases (show kd - 32 = 4 ∨ kd - 32 = 5 ∨ kd - 32 = 6 by omega) with q | q | q <;> rw [q] <;> exact ⟨_, rfl⟩
  obtain ⟨ty, ht⟩ := ht
  exact va_alen X.1 X.2.1 X.2.2.2.2.2.2.2.1.2.2.2.1 (hA.one ha.1 ha.2.1 (by rw [ha.2.2]; show kd ≠ 99; omega)) 0 (kd - 32) (cA := G.2.2.1 (kd - 32)) (x := (n, .inr (.inr (.inr (.inr (h.2.2.1 a)))))) (by show some (a, zCell G h a) = _; rw [zCell_r ha.2.2 h1]) ht rfl hd (K p l e R s m args below meth c H locs cells slots la X hA hS hc hs hl)
def zFr {α : Type} (f : Nat → Nat → α) (n : Nat) (v : α) : Nat → Nat → α := fun b j => if b = n then v else f b j
/-- one new cell: of a kind, all default -/
def zNw (h : zH) (kd len : Nat) : zH := (zFr h.1 h.2.2.2.2 0, zFr h.2.1 h.2.2.2.2 0, zFr h.2.2.1 h.2.2.2.2 none, (fun b => if b = h.2.2.2.2 then (kd, len) else h.2.2.2.1 b), h.2.2.2.2 + 1)
theorem zFr_off {α : Type} {f : Nat → Nat → α} {n b : Nat} {v : α} (h : b ≠ n) : zFr f n v b = f b := by
  funext j
  simp [zFr, h]
theorem zFr_at {α : Type} {f : Nat → Nat → α} {n : Nat} {v : α} : zFr f n v n = fun _ => v := by
  funext j
  simp [zFr]
theorem zNw_off {G : zG} {h : zH} {kd len b : Nat} (hb : b ≠ h.2.2.2.2) : zCell G (zNw h kd len) b = zCell G h b := by
  unfold zCell
  rw [zFs_off (h := h) (h' := zNw h kd len) (fun j t => by unfold zVal zNw; simp only [zFr_off hb])]
  simp only [zNw, zFr_off hb, if_neg hb]
theorem zAt.push {G : zG} {h : zH} {H H1 : Heap} {kd len : Nat} (hA : zAt G h H) (hz : H1.size = H.size + 1) (ho : ∀ q, q < H.size → H1[q]? = H[q]?) (he : va_at G.2.1 zCl (H.size, zCell G (zNw h kd len) H.size) H1) : zAt G (zNw h kd len) H1 := by
  obtain ⟨hP, hn, hg⟩ := hA
  refine ⟨fun b h1 h2 h3 => ?_, by rw [hz, hn]; rfl, Nat.le_succ_of_le hg⟩
  have h2' : b < h.2.2.2.2 + 1 := h2
  by_cases hb : b = h.2.2.2.2
  · subst hb; rw [← hn]; exact he
  · rw [zNw_off hb]
    have h3' : (h.2.2.2.1 b).1 ≠ 99 := by simpa [zNw, hb] using h3
    exact (hP b h1 (by omega) h3').kept (ho b (by omega))
theorem zS_push {A : Nat → Prop} {H0 H H1 : Heap} {locs : List Loc} (hS : va_S A H0 H locs) (hz : H.size ≤ H1.size) (ho : ∀ q, q < H.size → H1[q]? = H[q]?) : va_S A H0 H1 locs := ⟨Nat.le_trans hS.1 hz, fun q h1 h2 => (ho q (Nat.lt_of_lt_of_le h1 hS.1)).trans (hS.2.1 q h1 h2), hS.2.2⟩
theorem zNew {G : zG} {d kc ks pc : Nat} {M : zM} {ls : List (Nat × Value)} {st : List Value} {h : zH} {Q : Option Value → zH → Prop} (ci idx : Nat) {C : String} {T : u_T} {N : Nat} {ty : Nat → FieldType} (hC : zCls ci C T N ty) (kc' ks' pc' : Nat) (hd : decode M.2.1 pc = .ok (.new idx, 3)) (hn : pc + 3 = pc') (hw1 : Cond.classLink M.1.cls idx C ∈ lw_tbl) (hw2 : Cond.instantiable C N ∈ lw_tbl) (hw3 : Cond.initialized C ∈ lw_tbl) (hdv : ∀ k, k < N → defaultValue (ty k) = if zTag (ty k) = 0 then .int 0 else if zTag (ty k) = 1 then .long 0 else .null) (hkc : kc' + 1 = kc) (hks : ks' + N = ks) (K : zV G d M kc' ks' pc' ls (.ref h.2.2.2.2 :: st) (zNw h ci 0) Q) : zV G d M kc ks pc ls st h Q := by
  subst hn
  intro p l e R s m args below meth c H locs cells slots la X hA hS hc hs hl
  have hts : ∀ w ∈ u_ws C T N, w.before args s = true := fun w hw => X.2.2.2.2.2.2.2.1.1 args w (hC.2.2.1 w hw).1 (hC.2.2.1 w hw).2
  have hKn := X.2.2.2.2.2.2.2.1.2.2.2.1.1 ci _ hC.1
  refine W.newcK X.1 X.2.1 X.2.2.2.2.2.1 (X.2.2.2.2.2.2.2.1.1 _ _ hw1 rfl) (X.2.2.2.2.2.2.2.1.1 _ _ hw2 rfl) (X.2.2.2.2.2.2.2.1.1 _ _ hw3 rfl) rfl hd (by omega) (by omega) hKn.2.1 rfl fun H1 kC hkC e1 z1 o1 => ?_
  have hz : H.size = h.2.2.2.2 := hA.2.1
  have hA1 : zAt G (zNw h ci 0) H1 := by
    refine hA.push z1 o1 ?_
    rw [hz, zCell_ob (h := zNw h ci 0) (ci := ci) (by simp [zNw]) hC.2.1, ← hz]
    refine ⟨_, hC.1, (u_born ty hts (fun _ q => q) hKn hkC e1 hC.2.2.2.1).to (fun j hj => ?_)⟩
    rw [hdv j hj]
    show _ = (zFs (zNw h ci 0) H.size (zTy ci)).getD j .null
    rw [List.getD_eq_getElem?_getD, zFs_at hC hj, hz]
    simp only [zVal, zNw, zFr_at, Option.getD_some]
    rfl
  rw [hz]
  exact K p l e R s m args below meth c H1 locs (cells + 1) (slots + N) la X hA1 (zS_push hS (by omega) o1) (by omega) (by omega) hl
theorem zNewI {G : zG} {d kc ks pc : Nat} {M : zM} {ls : List (Nat × Value)} {st : List Value} {h : zH} {Q : Option Value → zH → Prop} {n : Int32} (N kc' ks' pc' : Nat) (hd : decode M.2.1 pc = .ok (.newarray .int, 2)) (hn : pc + 2 = pc') (hw : Cond.arrayClass .int ∈ lw_tbl) (h0 : ¬ n < 0) (hN : n.toNatClampNeg = N) (hb : N * componentBytes .int ≤ 536870912) (hkc : kc' + 1 = kc) (hks : ks' + N = ks) (K : zV G d M kc' ks' pc' ls (.ref h.2.2.2.2 :: st) (zNw h 32 N) Q) : zV G d M kc ks pc ls (.int n :: st) h Q := by
  subst hn
  intro p l e R s m args below meth c H locs cells slots la X hA hS hc hs hl
  have hz : H.size = h.2.2.2.2 := hA.2.1
  refine va_newaK (atype := .int) X.1 X.2.1 (X.2.2.2.2.2.2.2.1.1 _ _ hw rfl) rfl hd rfl h0 hN hb (by omega) (by omega) rfl fun H1 cA e1 z1 o1 hAr hNm => ?_
  have hcA : cA = G.2.2.1 0 := Option.some.inj (hNm.symm.trans (X.2.2.2.2.2.2.2.1.2.2.2.1.2 0 (G.2.2.1 0, .int) rfl).2)
  subst hcA
  have hA1 : zAt G (zNw h 32 N) H1 := by
    refine hA.push z1 o1 ?_
    rw [hz, zCell_i (h := zNw h 32 N) (kd := 32) (n := N) (by simp [zNw]) (by decide) (by decide), ← hz]
    show H1[H.size]? = some (vp_cell _ _)
    rw [e1, hz]
    simp only [zNw, zFr_at]
    rfl
  rw [hz]
  exact K p l e R s m args below meth c H1 locs (cells + 1) (slots + N) la X hA1 (zS_push hS (by omega) o1) (by omega) (by omega) hl
theorem zNewB {G : zG} {d kc ks pc : Nat} {M : zM} {ls : List (Nat × Value)} {st : List Value} {h : zH} {Q : Option Value → zH → Prop} {n : Int32} (N kc' ks' pc' : Nat) (hd : decode M.2.1 pc = .ok (.newarray .byte, 2)) (hn : pc + 2 = pc') (hw : Cond.arrayClass .byte ∈ lw_tbl) (h0 : ¬ n < 0) (hN : n.toNatClampNeg = N) (hb : N * componentBytes .byte ≤ 536870912) (hkc : kc' + 1 = kc) (hks : ks' + N = ks) (K : zV G d M kc' ks' pc' ls (.ref h.2.2.2.2 :: st) (zNw h 33 N) Q) : zV G d M kc ks pc ls (.int n :: st) h Q := by
  subst hn
  intro p l e R s m args below meth c H locs cells slots la X hA hS hc hs hl
  have hz : H.size = h.2.2.2.2 := hA.2.1
  refine va_newaK (atype := .byte) X.1 X.2.1 (X.2.2.2.2.2.2.2.1.1 _ _ hw rfl) rfl hd rfl h0 hN hb (by omega) (by omega) rfl fun H1 cA e1 z1 o1 hAr hNm => ?_
  have hcA : cA = G.2.2.1 1 := Option.some.inj (hNm.symm.trans (X.2.2.2.2.2.2.2.1.2.2.2.1.2 1 (G.2.2.1 1, .byte) rfl).2)
  subst hcA
  have hA1 : zAt G (zNw h 33 N) H1 := by
    refine hA.push z1 o1 ?_
    rw [hz, zCell_i (h := zNw h 33 N) (kd := 33) (n := N) (by simp [zNw]) (by decide) (by decide), ← hz]
    show H1[H.size]? = some (vp_cell _ _)
    rw [e1, hz]
    simp only [zNw, zFr_at]
    rfl
  rw [hz]
  exact K p l e R s m args below meth c H1 locs (cells + 1) (slots + N) la X hA1 (zS_push hS (by omega) o1) (by omega) (by omega) hl
theorem zNewZ {G : zG} {d kc ks pc : Nat} {M : zM} {ls : List (Nat × Value)} {st : List Value} {h : zH} {Q : Option Value → zH → Prop} {n : Int32} (N kc' ks' pc' : Nat) (hd : decode M.2.1 pc = .ok (.newarray .boolean, 2)) (hn : pc + 2 = pc') (hw : Cond.arrayClass .boolean ∈ lw_tbl) (h0 : ¬ n < 0) (hN : n.toNatClampNeg = N) (hb : N * componentBytes .boolean ≤ 536870912) (hkc : kc' + 1 = kc) (hks : ks' + N = ks) (K : zV G d M kc' ks' pc' ls (.ref h.2.2.2.2 :: st) (zNw h 34 N) Q) : zV G d M kc ks pc ls (.int n :: st) h Q := by
  subst hn
  intro p l e R s m args below meth c H locs cells slots la X hA hS hc hs hl
  have hz : H.size = h.2.2.2.2 := hA.2.1
  refine va_newaK (atype := .boolean) X.1 X.2.1 (X.2.2.2.2.2.2.2.1.1 _ _ hw rfl) rfl hd rfl h0 hN hb (by omega) (by omega) rfl fun H1 cA e1 z1 o1 hAr hNm => ?_
  have hcA : cA = G.2.2.1 2 := Option.some.inj (hNm.symm.trans (X.2.2.2.2.2.2.2.1.2.2.2.1.2 2 (G.2.2.1 2, .boolean) rfl).2)
  subst hcA
  have hA1 : zAt G (zNw h 34 N) H1 := by
    refine hA.push z1 o1 ?_
    rw [hz, zCell_i (h := zNw h 34 N) (kd := 34) (n := N) (by simp [zNw]) (by decide) (by decide), ← hz]
    show H1[H.size]? = some (vp_cell _ _)
    rw [e1, hz]
    simp only [zNw, zFr_at]
    rfl
  rw [hz]
  exact K p l e R s m args below meth c H1 locs (cells + 1) (slots + N) la X hA1 (zS_push hS (by omega) o1) (by omega) (by omega) hl
theorem zNewJ {G : zG} {d kc ks pc : Nat} {M : zM} {ls : List (Nat × Value)} {st : List Value} {h : zH} {Q : Option Value → zH → Prop} {n : Int32} (N kc' ks' pc' : Nat) (hd : decode M.2.1 pc = .ok (.newarray .long, 2)) (hn : pc + 2 = pc') (hw : Cond.arrayClass .long ∈ lw_tbl) (h0 : ¬ n < 0) (hN : n.toNatClampNeg = N) (hb : N * componentBytes .long ≤ 536870912) (hkc : kc' + 1 = kc) (hks : ks' + N = ks) (K : zV G d M kc' ks' pc' ls (.ref h.2.2.2.2 :: st) (zNw h 35 N) Q) : zV G d M kc ks pc ls (.int n :: st) h Q := by
  subst hn
  intro p l e R s m args below meth c H locs cells slots la X hA hS hc hs hl
  have hz : H.size = h.2.2.2.2 := hA.2.1
  refine va_newaK (atype := .long) X.1 X.2.1 (X.2.2.2.2.2.2.2.1.1 _ _ hw rfl) rfl hd rfl h0 hN hb (by omega) (by omega) rfl fun H1 cA e1 z1 o1 hAr hNm => ?_
  have hcA : cA = G.2.2.1 3 := Option.some.inj (hNm.symm.trans (X.2.2.2.2.2.2.2.1.2.2.2.1.2 3 (G.2.2.1 3, .long) rfl).2)
  subst hcA
  have hA1 : zAt G (zNw h 35 N) H1 := by
    refine hA.push z1 o1 ?_
    rw [hz, zCell_j (h := zNw h 35 N) (n := N) (by simp [zNw]), ← hz]
    show H1[H.size]? = some (vp_cell _ _)
    rw [e1, hz]
    simp only [zNw, zFr_at]
    rfl
  rw [hz]
  exact K p l e R s m args below meth c H1 locs (cells + 1) (slots + N) la X hA1 (zS_push hS (by omega) o1) (by omega) (by omega) hl
/-- a method of the tables: its code, its class, its parameters -/
def zMok (M : zM) (n : Nat) : Prop := Cond.code M.1 M.2.1 M.2.2.1 M.2.2.2 ∈ lw_tbl ∧ Cond.initialized M.1.cls ∈ lw_tbl ∧ M.1.cls ≠ "java/lang/invoke/MethodHandle" ∧ M.1.cls ≠ "java/lang/invoke/VarHandle" ∧ (parseMethodDescriptor M.1.desc).map (fun d => d.parameters.length) = some n ∧ M.2.2.1 ≤ 45
theorem zC.blind {G : zG} {vs : List Value} {h : zH} : FrameBlind (va_Pc vs (zPre G h)) := fun a U g mk q => ⟨q.1, q.2.1.call a g mk, q.2.2⟩
theorem zCB {G : zG} {d : Nat} {M M' : zM} {p : Program} {l : Launch} {R : Room} {s : State} {m : MethodId} {meth : Method} {c : Code} {args : Array Value} {idx n mc ms : Nat} (X : zCx G (d + 1) M p l R s m meth c) (hM : zMok M' n) (hw : Cond.methodLink M.1.cls idx M'.1 ∈ lw_tbl) : CallB R s args M.1.cls idx M'.1 M'.2.1 M'.2.2.1 M'.2.2.2 [.code M'.1 M'.2.1 M'.2.2.1 M'.2.2.2] (zRm d mc ms) mc ms n := by
  have h1 := X.2.2.2.2.2.2.2.2.1
  have h2 := X.2.2.2.2.2.2.2.2.2.1
  have h3 := hM.2.2.2.2.2
  refine ⟨rfl, rfl, h1, ?_, ?_, List.mem_cons_self, X.2.2.2.2.2.2.2.1.1 _ _ hM.1 rfl, X.2.2.2.2.2.2.2.1.1 _ _ hM.2.1 rfl, ⟨hM.2.2.1, hM.2.2.2.1⟩, fun sig h => ?_, X.2.2.2.2.2.2.2.1.1 _ _ hw rfl⟩
  · show 8 + (M'.2.2.1 + 11) + 64 * d ≤ R.locals
    omega
  · intro w hw a' U hW
    rw [List.mem_singleton.mp hw]
    exact (X.2.2.2.2.2.2.2.1.1.warm hW) a' _ hM.1 rfl
  · have h4 := hM.2.2.2.2.1
    rw [h] at h4
    exact (Option.some.inj h4).symm
theorem zAfter {G : zG} {d kc ks kc' ks' mc ms pc : Nat} {M : zM} {ls : List (Nat × Value)} {rest st0 : List Value} {Q : Option Value → zH → Prop} {p : Program} {l : Launch} {e : Env} {R : Room} {s : State} {m : MethodId} {args a : Array Value} {below : List Frame} {meth : Method} {c : Code} {H : Heap} {locs : List Loc} {cells slots : Nat} {la : Array Slot}
    (hr : va_Run p l e R s m args below meth c H locs cells slots mc ms (F0 m pc la st0) rest (zQc G (fun r h' => zV G d M kc' ks' (pc + 3) ls (r.toList ++ rest) h' Q) a) (zA G))
    (X : zCx G d M p l R s m meth c) (hS : va_S (zA G) s.heap H locs) (hc : cells + kc = R.cells) (hs : slots + ks = R.slots) (hkc : kc' + mc = kc) (hks : ks' + ms = ks) (hl : lv_has la M.2.2.1 ls) :
    W p l e R s m args below meth c H locs cells slots (MQ below (zQc G Q) args s R.cells R.slots (zA G)) (F0 m pc la st0) := by
  intro T hT Xs
  obtain ⟨v, st₀, t, T', L, h0, X', hL, e1, e2, ⟨⟨r, h1, hv, hq, hat⟩, hz, hk⟩, stp⟩ := hr T hT Xs
  cases hv
  rw [h0] at hz hk
  obtain ⟨t2, a1, b1⟩ := hq p l e R s m args below meth c T'.heap (locs ++ L) (cells + mc) (slots + ms) la X (by rw [e1]; exact hat)
    ⟨Nat.le_trans hS.1 (by rw [e1]; exact hz), fun q h1 h2 => by rw [e1, hk q (Nat.lt_of_lt_of_le h1 hS.1) h2]; exact hS.2.1 q h1 h2, fun q hq => (List.mem_append.mp hq).elim (hS.2.2 q) (hL q)⟩ (by omega) (by omega) hl T' rfl X'
  exact ⟨t2, stp t2 a1, b1⟩
theorem zCallV {G : zG} {d kc ks pc : Nat} {M : zM} {ls : List (Nat × Value)} {h : zH} {Q : Option Value → zH → Prop} {b : Nat} (ci : Nat) {C : String} {T : u_T} {N : Nat} {ty : Nat → FieldType} (hC : zCls ci C T N ty) (M' : zM) (idx n mc ms kc' ks' pc' : Nat) (As rest : List Value) (hM : zMok M' n) (hw : Cond.methodLink M.1.cls idx M'.1 ∈ lw_tbl) (hw2 : Cond.instanceMethod M'.1 ∈ lw_tbl) (hw3 : Cond.selects C M'.1 M'.1 ∈ lw_tbl) (hd : decode M.2.1 pc = .ok (.invokevirtual idx, 3)) (hn : pc + 3 = pc') (hAs : As.length = n) (hrest : (rest.map fun v => v.category).sum ≤ 8) (hkc : kc' + mc = kc) (hks : ks' + ms = ks) (ho : zOb G h b ci) (K : zC G d M' mc ms (.ref b :: As) h (fun r h' => zV G (d + 1) M kc' ks' pc' ls (r.toList ++ rest) h' Q)) : zV G (d + 1) M kc ks pc ls (As.reverse ++ .ref b :: rest) h Q := by
  subst hn
  intro p l e R s m args below meth c H locs cells slots la X hA hS hc hs hl
  refine zAfter (rest := rest) (va_runV (C := C) (Ts := []) ⟨X.1, X.2.1, X.2.2.1, X.2.2.2.2.2.1, fun _ q => by cases q⟩ (K l X.2.2.2.2.2.2.2.2.2.2) ⟨zCB X hM hw, X.2.2.2.2.2.2.2.1.1 _ _ hw2 rfl, X.2.2.2.2.2.2.2.1.1 _ _ hw3 rfl⟩ ⟨zC.blind, va_recv X.2.2.2.2.2.2.2.1.2.2.2.1 (hA.one ho.1 ho.2.1 (by rw [ho.2.2]; have := hC.2.1; omega)) hC.1 (ci := ci) (q0 := 0) (fs := zFs h b (zTy ci)) (by show some (b, zCell G h b) = _; rw [zCell_ob ho.2.2 hC.2.1]), fun U hU hW => ⟨rfl, X.2.2.2.2.2.2.2.1.warm hS hU hW, by rw [hU]; exact hA⟩⟩ rfl hAs hl.1 rfl (lv_room hrest) hd ⟨by omega, by omega⟩) X hS hc hs hkc hks hl
theorem zCallStr {G : zG} {d kc ks pc : Nat} {M : zM} {ls : List (Nat × Value)} {h : zH} {Q : Option Value → zH → Prop} (i : Nat) (hi : i < 6) (M' : zM) (idx n mc ms kc' ks' pc' : Nat) (As rest : List Value) (hM : zMok M' n) (hw : Cond.methodLink M.1.cls idx M'.1 ∈ lw_tbl) (hw2 : Cond.instanceMethod M'.1 ∈ lw_tbl) (hw3 : Cond.selects "java/lang/String" M'.1 M'.1 ∈ lw_tbl) (hd : decode M.2.1 pc = .ok (.invokevirtual idx, 3)) (hn : pc + 3 = pc') (hAs : As.length = n) (hrest : (rest.map fun v => v.category).sum ≤ 8) (hkc : kc' + mc = kc) (hks : ks' + ms = ks) (K : zC G d M' mc ms (.ref (G.2.2.2.1 i) :: As) h (fun r h' => zV G (d + 1) M kc' ks' pc' ls (r.toList ++ rest) h' Q)) : zV G (d + 1) M kc ks pc ls (As.reverse ++ .ref (G.2.2.2.1 i) :: rest) h Q := by
  subst hn
  intro p l e R s m args below meth c H locs cells slots la X hA hS hc hs hl
  refine zAfter (rest := rest) (va_runV (C := "java/lang/String") (Ts := []) ⟨X.1, X.2.1, X.2.2.1, X.2.2.2.2.2.1, fun _ q => by cases q⟩ (K l X.2.2.2.2.2.2.2.2.2.2) ⟨zCB X hM hw, X.2.2.2.2.2.2.2.1.1 _ _ hw2 rfl, X.2.2.2.2.2.2.2.1.1 _ _ hw3 rfl⟩ ⟨zC.blind, vk_recv X.2.2.2.2.2.2.2.1.2.2.1.1 hi hS, fun U hU hW => ⟨rfl, X.2.2.2.2.2.2.2.1.warm hS hU hW, by rw [hU]; exact hA⟩⟩ rfl hAs hl.1 rfl (lv_room hrest) hd ⟨by omega, by omega⟩) X hS hc hs hkc hks hl
theorem zCallS {G : zG} {d kc ks pc : Nat} {M : zM} {ls : List (Nat × Value)} {h : zH} {Q : Option Value → zH → Prop}  (M' : zM) (idx n mc ms kc' ks' pc' : Nat) (As rest : List Value) (hM : zMok M' n) (hw : Cond.methodLink M.1.cls idx M'.1 ∈ lw_tbl) (hw2 : Cond.static M'.1 ∈ lw_tbl) (hd : decode M.2.1 pc = .ok (.invokestatic idx, 3)) (hn : pc + 3 = pc') (hAs : As.length = n) (hrest : (rest.map fun v => v.category).sum ≤ 8) (hkc : kc' + mc = kc) (hks : ks' + ms = ks) (K : zC G d M' mc ms As h (fun r h' => zV G (d + 1) M kc' ks' pc' ls (r.toList ++ rest) h' Q)) : zV G (d + 1) M kc ks pc ls (As.reverse ++ rest) h Q := by
  subst hn
  intro p l e R s m args below meth c H locs cells slots la X hA hS hc hs hl
  refine zAfter (rest := rest) (va_runS (Ts := []) ⟨X.1, X.2.1, X.2.2.1, X.2.2.2.2.2.1, fun _ q => by cases q⟩ (K l X.2.2.2.2.2.2.2.2.2.2) ⟨zCB X hM hw, X.2.2.2.2.2.2.2.1.1 _ _ hw2 rfl⟩ ⟨zC.blind, fun U hU hW => ⟨rfl, X.2.2.2.2.2.2.2.1.warm hS hU hW, by rw [hU]; exact hA⟩⟩ rfl hAs hl.1 rfl (lv_room hrest) hd ⟨by omega, by omega⟩) X hS hc hs hkc hks hl
theorem zCallI {G : zG} {d kc ks pc : Nat} {M : zM} {ls : List (Nat × Value)} {h : zH} {Q : Option Value → zH → Prop} {b : Nat} (M' : zM) (idx n mc ms kc' ks' pc' : Nat) (As rest : List Value) (hM : zMok M' n) (hw : Cond.methodLink M.1.cls idx M'.1 ∈ lw_tbl) (hw2 : Cond.instanceMethod M'.1 ∈ lw_tbl) (hi : M'.1.name = "<init>") (hr : M'.2.2.2 = none) (hd : decode M.2.1 pc = .ok (.invokespecial idx, 3)) (hn : pc + 3 = pc') (hAs : As.length = n) (hrest : (rest.map fun v => v.category).sum ≤ 8) (hkc : kc' + mc = kc) (hks : ks' + ms = ks) (K : zC G d M' mc ms (.ref b :: As) h (fun r h' => zV G (d + 1) M kc' ks' pc' ls (r.toList ++ rest) h' Q)) : zV G (d + 1) M kc ks pc ls (As.reverse ++ .ref b :: rest) h Q := by
  subst hn
  obtain ⟨y', b', n', r'⟩ := M'
  obtain rfl : r' = none := hr
  intro p l e R s m args below meth c H locs cells slots la X hA hS hc hs hl
  refine zAfter (rest := rest) (va_runI (Ts := []) ⟨X.1, X.2.1, X.2.2.1, X.2.2.2.2.2.1, fun _ q => by cases q⟩ (K l X.2.2.2.2.2.2.2.2.2.2) ⟨zCB X hM hw, hi, X.2.2.2.2.2.2.2.1.1 _ _ hw2 rfl⟩ ⟨zC.blind, fun U hU hW => ⟨rfl, X.2.2.2.2.2.2.2.1.warm hS hU hW, by rw [hU]; exact hA⟩⟩ rfl hAs hl.1 rfl (lv_room hrest) hd ⟨by omega, by omega⟩) X hS hc hs hkc hks hl
theorem zCN {G : zG} {d : Nat} {M M' : zM} {p : Program} {l : Launch} {R : Room} {s : State} {m : MethodId} {meth : Method} {c : Code} {args : Array Value} {idx n mc ms : Nat} {host : String} (X : zCx G (d + 1) M p l R s m meth c) (hM : zMok M' n) (hw : Cond.methodLinkNest M.1.cls idx M'.1 host ∈ zNest) : va_CN R s args M.1.cls idx M'.1 host M'.2.1 M'.2.2.1 M'.2.2.2 [.code M'.1 M'.2.1 M'.2.2.1 M'.2.2.2] (zRm d mc ms) mc ms n := by
  have h1 := X.2.2.2.2.2.2.2.2.1
  have h2 := X.2.2.2.2.2.2.2.2.2.1
  have h3 := hM.2.2.2.2.2
  refine ⟨⟨rfl, rfl, h1, ?_, ?_, List.mem_cons_self⟩, X.2.2.2.2.2.2.2.1.1 _ _ hM.1 rfl, X.2.2.2.2.2.2.2.1.1 _ _ hM.2.1 rfl, ⟨hM.2.2.1, hM.2.2.2.1⟩, fun sig h => ?_, va_Nw.use rfl (X.2.2.2.2.2.2.2.1.2.1.1 _ hw)⟩
  · show 8 + (M'.2.2.1 + 11) + 64 * d ≤ R.locals
    omega
  · intro w hw a' U hW
    rw [List.mem_singleton.mp hw]
    exact (X.2.2.2.2.2.2.2.1.1.warm hW) a' _ hM.1 rfl
  · have h4 := hM.2.2.2.2.1
    rw [h] at h4
    exact (Option.some.inj h4).symm
theorem zCallIN {G : zG} {d kc ks pc : Nat} {M : zM} {ls : List (Nat × Value)} {h : zH} {Q : Option Value → zH → Prop} {b : Nat} (host : String) (M' : zM) (idx n mc ms kc' ks' pc' : Nat) (As rest : List Value) (hM : zMok M' n) (hw : Cond.methodLinkNest M.1.cls idx M'.1 host ∈ zNest) (hw2 : Cond.instanceMethod M'.1 ∈ lw_tbl) (hi : M'.1.name = "<init>") (hr : M'.2.2.2 = none) (hd : decode M.2.1 pc = .ok (.invokespecial idx, 3)) (hn : pc + 3 = pc') (hAs : As.length = n) (hrest : (rest.map fun v => v.category).sum ≤ 8) (hkc : kc' + mc = kc) (hks : ks' + ms = ks) (K : zC G d M' mc ms (.ref b :: As) h (fun r h' => zV G (d + 1) M kc' ks' pc' ls (r.toList ++ rest) h' Q)) : zV G (d + 1) M kc ks pc ls (As.reverse ++ .ref b :: rest) h Q := by
  subst hn
  obtain ⟨y', b', n', r'⟩ := M'
  obtain rfl : r' = none := hr
  intro p l e R s m args below meth c H locs cells slots la X hA hS hc hs hl
  refine zAfter (rest := rest) (va_runIN (Ts := []) ⟨X.1, X.2.1, X.2.2.1, X.2.2.2.2.2.1, fun _ q => by cases q⟩ (K l X.2.2.2.2.2.2.2.2.2.2) ⟨zCN X hM hw, hi, X.2.2.2.2.2.2.2.1.1 _ _ hw2 rfl⟩ ⟨zC.blind, fun U hU hW => ⟨rfl, X.2.2.2.2.2.2.2.1.warm hS hU hW, by rw [hU]; exact hA⟩⟩ rfl hAs hl.1 rfl (lv_room hrest) hd ⟨by omega, by omega⟩) X hS hc hs hkc hks hl
