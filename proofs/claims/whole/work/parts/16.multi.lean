/-! new T[n][m], its addresses in order -/
theorem zOuter (c : ClassId) (N h0 : Nat) : ∀ i : Nat, Jvm.Free.Multi.outerC c N h0 i = arrV c N (fun j => va_rf (if j < i then some (h0 + 1 + j) else none))
  | 0 => by
    show ({ cls := c, slots := Array.replicate N .null, vm := .none } : Cell) = _
    rw [arrV_new]
    refine congrArg (arrV c N) (funext fun j => ?_)
    simp [va_rf]
  | i + 1 => by
    show (Jvm.Free.Multi.outerC c N h0 i).setSlot i (.ref (h0 + 1 + i)) = _
    rw [zOuter c N h0 i, arrV_store]
    refine congrArg (arrV c N) (funext fun j => ?_)
    by_cases e : j = i
    · subst e
      simp [updV, va_rf]
    · by_cases h : j < i
      · simp [updV, e, h, Nat.lt_succ_of_lt h]
      · simp [updV, e, h, show ¬ j < i + 1 by omega]
def zKr (K : Nat → Nat × Nat) (n : Nat) (p : Nat × Nat) : Nat → Nat × Nat := fun b => if b = n then p else K b
def zMf {α : Type} (f : Nat → Nat → α) (n N : Nat) (v : α) : Nat → Nat → α := fun b j => if n ≤ b ∧ b < n + 1 + N then v else f b j
def zMr (R : Nat → Nat → Option Nat) (n N : Nat) : Nat → Nat → Option Nat := fun b j => if b = n then (if j < N then some (n + 1 + j) else none) else if n ≤ b ∧ b < n + 1 + N then none else R b j
def zMk (K : Nat → Nat × Nat) (n N len : Nat) : Nat → Nat × Nat := fun b => if b = n then (36, N) else if n ≤ b ∧ b < n + 1 + N then (32, len) else K b
/-- the heap with an array of N arrays of len ints -/
def zMl (h : zH) (N len : Nat) : zH := (zMf h.1 h.2.2.2.2 N 0, zMf h.2.1 h.2.2.2.2 N 0, zMr h.2.2.1 h.2.2.2.2 N, zMk h.2.2.2.1 h.2.2.2.2 N len, h.2.2.2.2 + 1 + N)
theorem zMl_off {G : zG} {h : zH} {N len b : Nat} (hb : b < h.2.2.2.2) : zCell G (zMl h N len) b = zCell G h b := by
  have h1 : ¬ (h.2.2.2.2 ≤ b ∧ b < h.2.2.2.2 + 1 + N) := by omega
  have h2 : ¬ b = h.2.2.2.2 := by omega
  have e1 : (zMl h N len).1 b = h.1 b := by funext j; simp [zMl, zMf, h1]
  have e2 : (zMl h N len).2.1 b = h.2.1 b := by funext j; simp [zMl, zMf, h1]
  have e3 : (zMl h N len).2.2.1 b = h.2.2.1 b := by funext j; simp [zMl, zMr, h1, h2]
  have e4 : (zMl h N len).2.2.2.1 b = h.2.2.2.1 b := by simp [zMl, zMk, h1, h2]
  unfold zCell
  rw [zFs_off (h := h) (h' := zMl h N len) (fun j t => by unfold zVal; rw [e1, e2, e3]), e1, e2, e3, e4]
theorem zMulti {G : zG} {d kc ks pc : Nat} {M : zM} {ls : List (Nat × Value)} {st : List Value} {h : zH} {Q : Option Value → zH → Prop} {nn kk : Int32} (idx N len kc' ks' pc' : Nat) (hd : decode M.2.1 pc = .ok (.multianewarray idx 2, 4)) (hn : pc + 4 = pc') (hw : Cond.classLink M.1.cls idx "[[I" ∈ lw_tbl) (hw2 : Cond.arrayClass .int ∈ lw_tbl) (h0 : ¬ nn < 0) (h1 : ¬ kk < 0) (hN : nn.toNatClampNeg = N) (hL : kk.toNatClampNeg = len) (hb1 : N * 4 ≤ 536870912) (hb2 : len * 4 ≤ 536870912) (hkc : kc' + (1 + N) = kc) (hks : ks' + (N + N * len) = ks) (K : zV G d M kc' ks' pc' ls (.ref h.2.2.2.2 :: st) (zMl h N len) Q) : zV G d M kc ks pc ls (.int kk :: .int nn :: st) h Q := by
  subst hn
  subst hN
  subst hL
  intro p l e R s m args below meth c H locs cells slots la X hA hS hc hs hl
  have hz : H.size = h.2.2.2.2 := hA.2.1
  intro T hT Xs
  obtain ⟨vm₁, cA, comp, -, fA, fC, hO, -, X', step⟩ := Xs.multianewarray2F X.1 (ty := .int) X.2.2.2.2.2.1 (X.2.2.2.2.2.2.2.1.1 _ _ hw rfl) X.2.2.2.2.2.2.2.1.2.1.2.2.2 (X.2.2.2.2.2.2.2.1.1 _ _ hw2 rfl) (g := F0 m pc la (.int kk :: .int nn :: st)) rfl (by rw [X.2.1]; exact hd) rfl h0 h1 hb1 hb2 (by omega) rfl rfl (by omega) (by omega)
  have hcA : cA = G.2.2.1 4 := Option.some.inj (fA.symm.trans (X.2.2.2.2.2.2.2.1.2.2.2.1.2 4 (G.2.2.1 4, .array .int) rfl).2)
  have hcy : comp = G.2.2.1 0 := Option.some.inj (fC.symm.trans (X.2.2.2.2.2.2.2.1.2.2.2.1.2 0 (G.2.2.1 0, .int) rfl).2)
  subst hcA
  subst hcy
  generalize hF : Jvm.Free.Multi.fill (T.setVm vm₁) (G.2.2.1 4) (G.2.2.1 0) nn.toNatClampNeg kk.toNatClampNeg (defaultValue .int) nn.toNatClampNeg = F at X' step
  have hTh : (T.setVm vm₁).heap = H := hT
  obtain ⟨f1, f2, -, -⟩ := Jvm.Free.Multi.fill_facts (T.setVm vm₁) (G.2.2.1 4) (G.2.2.1 0) nn.toNatClampNeg kk.toNatClampNeg (defaultValue .int) nn.toNatClampNeg
  rw [hF, hTh] at f1 f2
  have hold : ∀ x : Nat, x < H.size → F.heap[x]? = H[x]? := fun x hx => by
    have := Jvm.Free.Multi.fill_old (T.setVm vm₁) (G.2.2.1 4) (G.2.2.1 0) nn.toNatClampNeg kk.toNatClampNeg (defaultValue .int) (a := x) (by rw [hTh]; exact hx) nn.toNatClampNeg
    rw [hF, hTh] at this
    exact this
  have hrow : ∀ j : Nat, j < nn.toNatClampNeg → F.heap[H.size + 1 + j]? = some (Jvm.Free.Multi.innerC (G.2.2.1 0) kk.toNatClampNeg (defaultValue .int)) := fun j hj => by
    have := Jvm.Free.Multi.fill_inner (T.setVm vm₁) (G.2.2.1 4) (G.2.2.1 0) nn.toNatClampNeg kk.toNatClampNeg (defaultValue .int) nn.toNatClampNeg j hj
    rw [hF, hTh] at this
    exact this
  rw [zOuter] at f2
  have hA1 : zAt G (zMl h nn.toNatClampNeg kk.toNatClampNeg) F.heap := by
    refine ⟨fun b g1 g2 g3 => ?_, by rw [f1, hz]; rfl, by have := hA.2.2; show _ ≤ h.2.2.2.2 + 1 + _; omega⟩
    have hlt' : b < h.2.2.2.2 + 1 + nn.toNatClampNeg := g2
    by_cases hb : b < h.2.2.2.2
    · rw [zMl_off hb]
      have hk1 : ¬ (h.2.2.2.2 ≤ b ∧ b < h.2.2.2.2 + 1 + nn.toNatClampNeg) := by omega
      have hk2 : ¬ b = h.2.2.2.2 := by omega
      have g3' : (h.2.2.2.1 b).1 ≠ 99 := by simpa [zMl, zMk, hk1, hk2] using g3
      exact (hA.1 b g1 hb g3').kept (hold _ (by omega))
    · by_cases he : b = h.2.2.2.2
      · rw [he, zCell_r (h := zMl h _ _) (kd := 36) (n := nn.toNatClampNeg) (by simp [zMl, zMk]) (by decide)]
        show F.heap[h.2.2.2.2]? = some (vp_cell _ _)
        rw [← hz, f2, vp_cell_q]
        refine congrArg (fun z => some (arrV _ _ z)) (funext fun j => ?_)
        simp [zMl, zMr, hz]
      · rw [zCell_i (h := zMl h _ _) (kd := 32) (n := kk.toNatClampNeg) (by simp [zMl, zMk, he]; omega) (by decide) (by decide)]
        show F.heap[b]? = some (vp_cell _ _)
        have := hrow (b - (H.size + 1)) (by omega)
        rw [show H.size + 1 + (b - (H.size + 1)) = b by omega] at this
        rw [this, vp_cell_i]
        show some ({ cls := _, slots := Array.replicate _ _, vm := .none } : Cell) = _
        rw [arrV_new]
        refine congrArg (fun z => some (arrV _ _ z)) (funext fun j => ?_)
        have : h.2.2.2.2 ≤ b ∧ b < h.2.2.2.2 + 1 + nn.toNatClampNeg := by omega
        simp [zMl, zMf, this]
        rfl
  obtain ⟨t, a1, b1⟩ := K p l e R s m args below meth c F.heap locs (cells + 1 + nn.toNatClampNeg) (slots + nn.toNatClampNeg + nn.toNatClampNeg * kk.toNatClampNeg) la X hA1 (zS_push hS (by omega) hold) (by omega) (by omega) hl F rfl X'
  refine ⟨t, step t ?_, b1⟩
  have e : T.heap.size = h.2.2.2.2 := by rw [hT]; exact hz
  rw [e]
  exact a1
