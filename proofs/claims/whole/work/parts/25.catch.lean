/-! FenceYards.farm, which may throw, and the law's own farm, which catches -/
def zNSE : String := "java/util/NoSuchElementException"
/-- the heap with cells at its end of which nothing is said -/
def zJk (h : zH) (n' : Nat) : zH := (h.1, h.2.1, h.2.2.1, (fun b => if b < h.2.2.2.2 then h.2.2.2.1 b else (99, 0)), n')
theorem zJk_cell {G : zG} {h : zH} {n' b : Nat} (hb : b < h.2.2.2.2) : zCell G (zJk h n') b = zCell G h b := by
  have e : (zJk h n').2.2.2.1 b = h.2.2.2.1 b := by simp [zJk, hb]
  unfold zCell
  rw [e]
  rfl
theorem zAt.junk {G : zG} {h : zH} {H H1 : Heap} (hA : zAt G h H) (h1 : H.size ≤ H1.size) (h2 : ∀ q : Nat, q < H.size → H1[q]? = H[q]?) : zAt G (zJk h H1.size) H1 := by
  refine ⟨fun a g1 g2 g3 => ?_, rfl, Nat.le_trans hA.2.2 (by rw [← hA.2.1]; exact h1)⟩
  by_cases hb : a < h.2.2.2.2
  · rw [zJk_cell hb]
    have g3' : (h.2.2.2.1 a).1 ≠ 99 := by simpa [zJk, hb] using g3
    exact (hA.1 a g1 hb g3').kept (h2 a (by rw [hA.2.1]; exact hb))
  · exact absurd (by simp [zJk, hb]) g3
def zXC (G : zG) (h : zH) (E : String) (st t : State) : Prop := E = zNSE ∧ (∃ n', h.2.2.2.2 ≤ n' ∧ zAt G (zJk h n') t.heap) ∧ va_F (zA G) st t
/-- a call, whatever the end -/
theorem zAfterW {G : zG} {mc ms pc : Nat} {rest st0 : List Value} {Q' : Option Value → zH → Prop} {Z : State → Prop} {p : Program} {l : Launch} {e : Env} {R : Room} {s : State} {m : MethodId} {args a : Array Value} {below : List Frame} {meth : Method} {c : Code} {H : Heap} {locs : List Loc} {cells slots : Nat} {la : Array Slot}
    (hr : va_Run p l e R s m args below meth c H locs cells slots mc ms (F0 m pc la st0) rest (zQc G Q' a) (zA G)) (hS : va_S (zA G) s.heap H locs)
    (kk : ∀ (r : Option Value) (h' : zH) (H1 : Heap) (locs1 : List Loc), Q' r h' → zAt G h' H1 → va_S (zA G) s.heap H1 locs1 → W p l e R s m args below meth c H1 locs1 (cells + mc) (slots + ms) Z (F0 m (pc + 3) la (r.toList ++ rest))) :
    W p l e R s m args below meth c H locs cells slots Z (F0 m pc la st0) := by
  intro T hT Xs
  obtain ⟨v, st₀, t, T', L, h0, X', hL, e1, e2, ⟨⟨r, h1, hv, hq, hat⟩, hz, hk⟩, stp⟩ := hr T hT Xs
  cases hv
  rw [h0] at hz hk
  obtain ⟨t2, a1, b1⟩ := kk v h1 T'.heap (locs ++ L) hq (by rw [e1]; exact hat)
    ⟨Nat.le_trans hS.1 (by rw [e1]; exact hz), fun q h1 h2 => by rw [e1, hk q (Nat.lt_of_lt_of_le h1 hS.1) h2]; exact hS.2.1 q h1 h2, fun q hq => (List.mem_append.mp hq).elim (hS.2.2 q) (hL q)⟩ T' rfl X'
  exact ⟨t2, stp t2 a1, b1⟩
section FARM
variable {G : zG} {d : Nat} {I : Nat → Nat → Int32} {J : Nat → Nat → Int64} {R : Nat → Nat → Option Nat} {K : Nat → Nat × Nat} {n : Nat}
theorem c_VilFarm {v : Nat} (S : hVil G R K n v) {p : Int32} : zC G (d + 1) mX10_isFarm 0 0 [.ref v, .int p] (I, J, R, K, n) (fun r h => r = some (.int (if p < 0 then 0 else if I v 5 ≤ p then 0 else 1)) ∧ h = (I, J, R, K, n)) := by
  refine zC.of (by decide) (Nat.le_of_ble_eq_true rfl) ?_
  exact wX10_isFarm_0 v S p ⟨rfl, rfl⟩
theorem c_isFarm {x v w q : Nat} (S : hX G R K n x v w q) {p : Int32} : zC G (d + 2) mX11_isFarm 0 0 [.ref x, .int p] (I, J, R, K, n) (fun r h => r = some (.int (if p < 0 then 0 else if I v 5 ≤ p then 0 else 1)) ∧ h = (I, J, R, K, n)) := by
  refine zC.of (by decide) (Nat.le_of_ble_eq_true rfl) ?_
  refine wX11_isFarm_0 x v w q S p ?_
  refine (c_VilFarm (Set_2 (X_26 S))).mono ?_
  rintro _ _ ⟨rfl, rfl⟩
  exact ⟨_, _, rfl, rfl, zOrIte (Or.inl rfl) (zOrIte (Or.inl rfl) (Or.inr rfl)), rfl, rfl⟩
end FARM
theorem zNoTr {l : Launch} (h : l.flags = flags0) : l.stackTraces = false := by
  unfold Launch.stackTraces
  rw [h]
  decide +kernel
def zNms : List String := ["java/lang/RuntimeException", "java/lang/Exception"]
def zThrowTbl : List Cond := tables_1_5.drop 180 ++ tables_1_6.take 100
theorem zThrow_in : (Cond.classLink RX11 149 zNSE :: Cond.initialized zNSE :: vx_at0 RX11 151 zNSE zNms).all (fun w => decide (w ∈ zThrowTbl) || decide (w ∈ tables_1_1.take 60)) = true := by decide +kernel
theorem zThrow_ot : (Cond.classLink RX11 149 zNSE :: Cond.initialized zNSE :: vx_at0 RX11 151 zNSE zNms).all vx_ot = true := by decide +kernel
theorem zThrow_w : ∀ w ∈ (Cond.classLink RX11 149 zNSE :: Cond.initialized zNSE :: vx_at0 RX11 151 zNSE zNms), w ∈ lw_tbl := by
  intro w hw
  have h := List.all_eq_true.mp zThrow_in w hw
  simp only [Bool.or_eq_true, decide_eq_true_eq, zThrowTbl, List.mem_append] at h
  rcases h with (h | h) | h
  · exact zT5 w (List.mem_of_mem_drop h)
  · exact zT6 w (List.mem_of_mem_take h)
  · exact zT1 w (List.mem_of_mem_take h)
theorem zThrow_k : (Cond.classLink RX11 149 zNSE :: Cond.initialized zNSE :: vx_at0 RX11 151 zNSE zNms).all (fun w => goodWord w || (match w with | .declares .. => true | .castable .. => true | _ => false)) = true := by decide +kernel
theorem zThrow_at {s : State} {args : Array Value} (h1 : zTab s) (h2 : zNst s) : ∀ w ∈ (Cond.classLink RX11 149 zNSE :: Cond.initialized zNSE :: vx_at0 RX11 151 zNSE zNms), w.before args s = true := by
  intro w hw
  have hk := List.all_eq_true.mp zThrow_k w hw
  by_cases hg : goodWord w = true
  · exact h1 args w (zThrow_w w hw) hg
  · have hn : w ∈ zNest := by
      unfold zNest
      refine List.mem_filter.mpr ⟨zThrow_w w hw, ?_⟩
      cases w <;> simp_all
    exact va_Nw.use (zNest_in w hn).2 (h2.1 w hn)
