/-! PIECES OF A LAW'S CODE, RUN -/
/-- run behind anything, c takes s1 off and puts s2 there; h: how high the stack is over what is below -/
def FR (L : Nat → Int32) (c s1 s2 : List Int32) (h : Nat) : Prop := ∀ (code : Nat → Int32) (C i : Nat) (st : List Int32), (∀ j, j < c.length → code (i + j) = c.getD j 0) → i + c.length ≤ C → st.length + h ≤ 32 → runA code C L (C + 1 - i) i (s1 ++ st) = runA code C L (C + 1 - (i + c.length)) (i + c.length) (s2 ++ st)
section
variable {L : Nat → Int32} {c c1 c2 s1 s2 s3 : List Int32} {h h' : Nat}
theorem FR.nil : FR L [] s1 s1 h := fun _ _ _ _ _ _ _ => rfl
theorem FR.wide (F : FR L c s1 s2 h) (hh : h ≤ h') : FR L c s1 s2 h' := fun code C i st h1 h2 h3 => F code C i st h1 h2 (by omega)
theorem getD_l {a b : List Int32} {j : Nat} (h : j < a.length) : (a ++ b).getD j 0 = a.getD j 0 := by
  rw [List.getD_eq_getElem?_getD, List.getD_eq_getElem?_getD, List.getElem?_append_left h]
theorem getD_r {a b : List Int32} {j : Nat} : (a ++ b).getD (a.length + j) 0 = b.getD j 0 := by
  rw [List.getD_eq_getElem?_getD, List.getD_eq_getElem?_getD, List.getElem?_append_right (by omega), Nat.add_sub_cancel_left]
theorem FR.seq (F1 : FR L c1 s1 s2 h) (F2 : FR L c2 s2 s3 h) : FR L (c1 ++ c2) s1 s3 h := by
  intro code C i st h1 h2 h3
  rw [List.length_append] at h1 h2 ⊢
  rw [F1 code C i st (fun j hj => by rw [h1 j (by omega), getD_l hj]) (by omega) h3, F2 code C (i + c1.length) st (fun j hj => by rw [Nat.add_assoc, h1 (c1.length + j) (by omega), getD_r]) (by omega) h3, Nat.add_assoc]
theorem FR.frame (F : FR L c s1 s2 h) (v : Int32) : FR L c (s1 ++ [v]) (s2 ++ [v]) (h + 1) := by
  intro code C i st h1 h2 h3
  have := F code C i (v :: st) h1 h2 (by simp; omega)
  rw [List.append_assoc, List.append_assoc]
  exact this
theorem FR.one {x : Int32} (H : ∀ (code : Nat → Int32) (C i : Nat) (st : List Int32), code i = x → i + 1 ≤ C → st.length + h ≤ 32 → runA code C L ((C - i) + 1) i (s1 ++ st) = runA code C L (C - i) (i + 1) (s2 ++ st)) : FR L [x] s1 s2 h := by
  intro code C i st h1 h2 h3
  have hx : code i = x := h1 0 (by simp)
  have hl : [x].length = 1 := rfl
  rw [hl] at h2 ⊢
  rw [show C + 1 - i = (C - i) + 1 by omega, show C + 1 - (i + 1) = C - i by omega]
  exact H code C i st hx h2 h3
theorem FR.push {x : Int32} (h0 : ¬ x < 0) (h1 : x - 10000 < 6) : FR L [x] [] [if 10000 ≤ x then L (x - 10000 : Int32).toNatClampNeg else x] 1 := by
  refine FR.one fun code C i st hx hC hl => ?_
  rw [runA, if_neg (by omega), hx, if_neg h0]
  simp only [List.nil_append, List.cons_append]
  rw [if_neg (by omega), if_pos h1]
theorem FR.op {s v w : Int32} (h0 : -s < 0) (h1 : -s ≠ -59) (h2 : -s ≠ -63) (h3 : -s ≠ -33) : FR L [-s] [w, v] [joinA s v w] 2 := by
  refine FR.one fun code C i st hx hC hl => ?_
  rw [runA, if_neg (by omega), hx, if_pos h0]
  simp only [List.cons_append, List.nil_append, List.length_cons, List.headD_cons, List.tail_cons, Int32.neg_neg]
  rw [if_neg (by omega), if_neg h1, if_neg h2, if_neg h3, if_neg (by omega)]
theorem FR.not {v : Int32} : FR L [-33] [v] [1 - v] 1 := by
  refine FR.one fun code C i st hx hC hl => ?_
  rw [runA, if_neg (by omega), hx, if_pos (by decide)]
  simp only [List.cons_append, List.nil_append, List.length_cons, List.headD_cons, List.tail_cons]
  rw [if_neg (by omega), if_neg (by decide), if_neg (by decide), if_pos (by decide)]
/-- a part, then a sign that joins it to what was there -/
theorem FR.join {s v w : Int32} (F : FR L c [] [w] h) (hh : 1 ≤ h) (h0 : -s < 0) (h1 : -s ≠ -59) (h2 : -s ≠ -63) (h3 : -s ≠ -33) : FR L (c ++ [-s]) [v] [joinA s v w] (h + 1) :=
  FR.seq (F.frame v) ((FR.op h0 h1 h2 h3).wide (by omega))
end
theorem wi_in (x : Int64) : ((if ((if (x : Int64) < 1000000 then x else 1000000) : Int64) < (-1000000) then (-1000000) else (if (x : Int64) < 1000000 then x else 1000000)) : Int64).toInt32 = wi x := by
  unfold wi
  apply congrArg Int64.toInt32
  have k1 : (1000000 : Int64).toInt = 1000000 := rfl
  have k2 : (-1000000 : Int64).toInt = -1000000 := rfl
  by_cases h1 : x < 1000000
  · have h2 : ¬ (1000000 < x) := fun h => by rw [Int64.lt_iff_toInt_lt] at h h1; omega
    rw [if_pos h1, if_neg h2]
    by_cases h3 : x < -1000000
    · rw [if_pos h3, if_neg (fun h => by rw [Int64.lt_iff_toInt_lt] at h h3; omega)]
    · rw [if_neg h3]
      by_cases h4 : -1000000 < x
      · rw [if_pos h4]
      · rw [if_neg h4]
        apply Int64.toInt.inj
        rw [Int64.lt_iff_toInt_lt] at h3 h4
        omega
  · rw [if_neg h1, if_neg (by decide)]
    by_cases h2 : 1000000 < x
    · rw [if_pos h2, if_pos (by decide)]
    · have e : x = 1000000 := by
        apply Int64.toInt.inj
        rw [Int64.lt_iff_toInt_lt] at h1 h2
        omega
      rw [if_neg h2, e, if_pos (by decide)]
theorem wi_nm (x : Int64) : wi x ≠ Int32.minValue := by
  rw [← wi_in]
  have k1 : (1000000 : Int64).toInt = 1000000 := rfl
  have k2 : (-1000000 : Int64).toInt = -1000000 := rfl
  intro h
  have h2 := congrArg Int32.toInt h
  rw [Int64.toInt_toInt32] at h2
  have h3 : Int32.minValue.toInt = -2147483648 := rfl
  rw [h3] at h2
  have hb : ∀ y : Int64, -1000000 ≤ y.toInt → y.toInt ≤ 1000000 → y.toInt.bmod (2 ^ 32) ≠ -2147483648 := by
    intro y a b
    rw [Int.bmod_eq_of_le (by omega) (by omega)]
    omega
  revert h2
  by_cases h1 : x < 1000000
  · rw [if_pos h1]
    rw [Int64.lt_iff_toInt_lt] at h1
    by_cases h4 : x < -1000000
    · rw [if_pos h4]; exact hb _ (by omega) (by omega)
    · rw [if_neg h4]
      rw [Int64.lt_iff_toInt_lt] at h4
      exact hb _ (by omega) (by omega)
  · rw [if_neg h1, if_neg (by decide)]
    exact hb _ (by omega) (by omega)
/-- the joining signs, as the model does them -/
theorem join_add (v w : Int32) : joinA 43 v w = wi (v.toInt64 + w.toInt64) := by
  unfold joinA
  rw [if_neg (by decide), if_neg (by decide), if_pos rfl]
theorem join_sub (v w : Int32) : joinA 45 v w = wi (v.toInt64 - w.toInt64) := by
  unfold joinA
  rw [if_neg (by decide), if_neg (by decide), if_neg (by decide), if_pos rfl]
theorem join_mul (v w : Int32) : joinA 42 v w = wi (v.toInt64 * w.toInt64) := by
  unfold joinA
  rw [if_neg (by decide), if_pos rfl]
theorem join_div {v w : Int32} (hv : v ≠ Int32.minValue) : joinA 47 v w = wi (if (lg_cmp w.toInt64 0 : Int32) = 0 then 0 else v.toInt64 / w.toInt64) := by
  unfold joinA
  rw [if_neg (by decide), if_neg (by decide), if_neg (by decide), if_neg (by decide), if_pos rfl]
  apply congrArg wi
  by_cases h : w = 0
  · subst h
    rw [if_pos rfl, if_pos (by decide)]
  · rw [if_neg h, if_neg, Int32.toInt64_div_of_ne_left _ _ hv]
    intro h2
    apply h
    have h3 : w.toInt64 = 0 := (lg_cmp_eq _ _).mp h2
    apply Int32.toInt.inj
    have h4 := congrArg Int64.toInt h3
    rw [Int32.toInt_toInt64] at h4
    exact h4
theorem wi_b : wi 0 = 0 ∧ wi 1 = 1 := by decide
theorem join_eq (v w : Int32) : joinA 61 v w = if v = w then 1 else 0 := by
  unfold joinA
  rw [if_neg (by decide), if_neg (by decide), if_neg (by decide), if_neg (by decide), if_neg (by decide), if_neg (by decide), if_pos rfl]
  split
  · exact wi_b.2
  · exact wi_b.1
theorem join_lt (v w : Int32) : joinA 60 v w = if w ≤ v then 0 else 1 := by
  unfold joinA
  rw [if_neg (by decide), if_neg (by decide), if_neg (by decide), if_neg (by decide), if_neg (by decide), if_pos rfl]
  split
  · exact wi_b.1
  · exact wi_b.2
theorem join_gt (v w : Int32) : joinA 62 v w = if v ≤ w then 0 else 1 := by
  unfold joinA
  rw [if_neg (by decide), if_neg (by decide), if_neg (by decide), if_neg (by decide), if_neg (by decide), if_neg (by decide), if_neg (by decide), if_pos rfl]
  split
  · exact wi_b.1
  · exact wi_b.2
theorem join_and {v w : Int32} (hv : v = 0 ∨ v = 1) (hw : w = 0 ∨ w = 1) : joinA 38 v w = if v = 0 then 0 else (if w = 0 then 0 else 1) := by
  rcases hv with rfl | rfl <;> rcases hw with rfl | rfl <;> decide
theorem join_or {v w : Int32} (hv : v = 0 ∨ v = 1) (hw : w = 0 ∨ w = 1) : joinA 124 v w = if v = 0 then (if w = 0 then 0 else 1) else 1 := by
  rcases hv with rfl | rfl <;> rcases hw with rfl | rfl <;> decide
