/-- ldc_w of a String constant -/
theorem zw_ldcwS {p : Program} {l : Launch} {e : Env} {R : Room} {s : State} {m : MethodId} {args : Array Value} {below : List Frame} {meth : Method} {c : Code} {T : State} {locs : List Loc} {cells slots : Nat} (X : Stand p l e R s m args below meth c T locs cells slots) (hexec : p.tables.exec = Jvm.exec) {own text : String} {index : Nat} {a : Addr} (hown : s.vm.findClass own = some m.cls)
    (hconst : (Cond.stringRef own index text).before #[] s = true) (hev : (Term.string own index).eval #[] s none [] s = some (.ref a)) {g : JFrame} (hg : g.method = m) (hdg : decode c.code g.pc = .ok (.ldc_w index, 3)) :
    ∀ target, Steps p.tables e below (T.setTop { g with pc := g.pc + 3, stack := .ref a :: g.stack }) target → Steps p.tables e below (T.setTop g) target := by
  obtain ⟨k, cf, i, a', hk, hcf, hcp, -, hr, hev'⟩ := Cond.stringRef_spec hown hconst
  cases hev.symm.trans hev'
  obtain ⟨k', hk', he⟩ := X.warmed.alike.2.2 _ _ hk
  have hr' : k'.resolved[index]? = some (some (.string a)) := by
    rcases X.warmed.entry hk hk' index with h | ⟨h, -⟩
    · rw [h]; exact hr
    · rw [hr] at h; cases h
  intro target hrest
  subst hg
  jvm_step X.here [hexec, hdg, ldc_w.wp_string (e := e) (s := T) (f := g) X.here.top hk' (by rw [he]; exact hcf) hcp hr']
  exact hrest
theorem zLdcwS {G : zG} {d kc ks pc : Nat} {M : zM} {ls : List (Nat × Value)} {st : List Value} {h : zH} {Q : Option Value → zH → Prop} (i : Nat) (tx : String) (q : Nat) (pc' : Nat) (hd : decode M.2.1 pc = .ok (.ldc_w i, 3)) (hn : pc + 3 = pc') (hw : (M.1.cls, i, tx, q) ∈ zStrR) (K : zV G d M kc ks pc' ls (.ref (G.2.2.2.1 q) :: st) h Q) : zV G d M kc ks pc ls st h Q := by
  subst hn
  intro p l e R s m args below meth c H locs cells slots la X hA hS hc hs hl T hT XX
  obtain ⟨t, a1, b1⟩ := K p l e R s m args below meth c H locs cells slots la X hA hS hc hs hl T hT XX
  have hZ := X.2.2.2.2.2.2.2.1.2.2.1.2.2.1 (M.1.cls, i, tx, q) hw
  exact ⟨t, zw_ldcwS XX X.1 X.2.2.2.2.2.1 hZ.1 hZ.2 (g := F0 m pc la st) rfl (by rw [X.2.1]; exact hd) t a1, b1⟩
