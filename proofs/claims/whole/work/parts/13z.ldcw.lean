theorem zLdcwS {G : zG} {d kc ks pc : Nat} {M : zM} {ls : List (Nat × Value)} {st : List Value} {h : zH} {Q : Option Value → zH → Prop} (i : Nat) (tx : String) (q : Nat) (pc' : Nat) (hd : decode M.2.1 pc = .ok (.ldc_w i, 3)) (hn : pc + 3 = pc') (hw : (M.1.cls, i, tx, q) ∈ zStrR) (K : zV G d M kc ks pc' ls (.ref (G.2.2.2.1 q) :: st) h Q) : zV G d M kc ks pc ls st h Q := by
  subst hn
  intro p l e R s m args below meth c H locs cells slots la X hA hS hc hs hl T hT XX
  obtain ⟨t, a1, b1⟩ := K p l e R s m args below meth c H locs cells slots la X hA hS hc hs hl T hT XX
  have hZ := X.2.2.2.2.2.2.2.1.2.2.1.2.2.1 (M.1.cls, i, tx, q) hw
  exact ⟨t, XX.ldcStringW X.1 X.2.2.2.2.2.1 (show (Cond.stringRef M.1.cls i tx).before args s = true from hZ.1) (show (Term.string M.1.cls i).eval args s none [] s = some (.ref (G.2.2.2.1 q)) from hZ.2) (g := F0 m pc la st) rfl (by rw [X.2.1]; exact hd) t a1, b1⟩
