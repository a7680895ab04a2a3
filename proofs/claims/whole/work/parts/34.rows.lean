/-! HOW A STATE'S CELLS FOLLOW ITS ROW -/
section
variable {I : Nat → Nat → Int32} {a : Nat} {T : Nat → Nat}
theorem CS.same {I' : Nat → Nat → Int32} (C : CS I a T) (h : ∀ b, a ≤ b → b < a + 7 → I' b = I b) : CS I' a T := by
  unfold CS at C ⊢
  rw [h a (by omega) (by omega), h (a + 1) (by omega) (by omega), h (a + 2) (by omega) (by omega), h (a + 3) (by omega) (by omega), h (a + 4) (by omega) (by omega), h (a + 5) (by omega) (by omega), h (a + 6) (by omega) (by omega)]
  exact C
theorem CS.row {T' : Nat → Nat} (C : CS I a T) (h : ∀ k, k < 50 → T' k = T k) : CS I a T' := by
  refine ⟨fun p hp => ?_, fun f hf => ?_, ?_⟩
  · rw [h (3 * p + 2) (by omega), h (3 * p) (by omega), h (3 * p + 1) (by omega)]
    exact C.1 p hp
  · rw [h (27 + 3 * f) (by omega), h (28 + 3 * f) (by omega), h (29 + 3 * f) (by omega)]
    exact C.2.1 f hf
  · rw [h 45 (by omega), h 46 (by omega), h 47 (by omega), h 48 (by omega), h 49 (by omega)]
    exact C.2.2
theorem CS.true_ (C : CS I a T) {f x : Nat} (hf : f < 6) : CS (zU I (a + 4) f (nI x)) a (up T (27 + 3 * f) x) := by
  refine ⟨fun p hp => ?_, fun g hg => ?_, ?_⟩
  · rw [up_ne (by omega), up_ne (by omega), up_ne (by omega), zU_off (by omega), zU_off (by omega), zU_off (by omega)]
    exact C.1 p hp
  · have h := C.2.1 g hg
    by_cases e : g = f
    · subst e
      refine ⟨?_, ?_, ?_⟩
      · rw [zU_self, up_at]
      · rw [zU_off (by omega), up_ne (by omega)]; exact h.2.1
      · rw [zU_off (by omega), up_ne (by omega)]; exact h.2.2
    · refine ⟨?_, ?_, ?_⟩
      · rw [zU_ne (by omega), up_ne (by omega)]; exact h.1
      · rw [zU_off (by omega), up_ne (by omega)]; exact h.2.1
      · rw [zU_off (by omega), up_ne (by omega)]; exact h.2.2
  · rw [zU_off (by omega), up_ne (by omega), up_ne (by omega), up_ne (by omega), up_ne (by omega), up_ne (by omega)]
    exact C.2.2
theorem CS.false_ (C : CS I a T) {f x : Nat} (hf : f < 6) : CS (zU I (a + 5) f (nI x)) a (up T (28 + 3 * f) x) := by
  refine ⟨fun p hp => ?_, fun g hg => ?_, ?_⟩
  · rw [up_ne (by omega), up_ne (by omega), up_ne (by omega), zU_off (by omega), zU_off (by omega), zU_off (by omega)]
    exact C.1 p hp
  · have h := C.2.1 g hg
    by_cases e : g = f
    · subst e
      refine ⟨?_, ?_, ?_⟩
      · rw [zU_off (by omega), up_ne (by omega)]; exact h.1
      · rw [zU_self, up_at]
      · rw [zU_off (by omega), up_ne (by omega)]; exact h.2.2
    · refine ⟨?_, ?_, ?_⟩
      · rw [zU_off (by omega), up_ne (by omega)]; exact h.1
      · rw [zU_ne (by omega), up_ne (by omega)]; exact h.2.1
      · rw [zU_off (by omega), up_ne (by omega)]; exact h.2.2
  · rw [zU_off (by omega), up_ne (by omega), up_ne (by omega), up_ne (by omega), up_ne (by omega), up_ne (by omega)]
    exact C.2.2
theorem CS.forg (C : CS I a T) {f x : Nat} (hf : f < 6) : CS (zU I (a + 6) f (nI x)) a (up T (29 + 3 * f) x) := by
  refine ⟨fun p hp => ?_, fun g hg => ?_, ?_⟩
  · rw [up_ne (by omega), up_ne (by omega), up_ne (by omega), zU_off (by omega), zU_off (by omega), zU_off (by omega)]
    exact C.1 p hp
  · have h := C.2.1 g hg
    by_cases e : g = f
    · subst e
      refine ⟨?_, ?_, ?_⟩
      · rw [zU_off (by omega), up_ne (by omega)]; exact h.1
      · rw [zU_off (by omega), up_ne (by omega)]; exact h.2.1
      · rw [zU_self, up_at]
    · refine ⟨?_, ?_, ?_⟩
      · rw [zU_off (by omega), up_ne (by omega)]; exact h.1
      · rw [zU_off (by omega), up_ne (by omega)]; exact h.2.1
      · rw [zU_ne (by omega), up_ne (by omega)]; exact h.2.2
  · rw [zU_off (by omega), up_ne (by omega), up_ne (by omega), up_ne (by omega), up_ne (by omega), up_ne (by omega)]
    exact C.2.2
theorem CS.f45 (C : CS I a T) {x : Nat} : CS (zU I a 6 (nI x)) a (up T 45 x) := by
  refine ⟨fun p hp => ?_, fun g hg => ?_, ?_⟩
  · rw [up_ne (by omega), up_ne (by omega), up_ne (by omega), zU_off (by omega), zU_off (by omega), zU_off (by omega)]
    exact C.1 p hp
  · rw [up_ne (by omega), up_ne (by omega), up_ne (by omega), zU_off (by omega), zU_off (by omega), zU_off (by omega)]
    exact C.2.1 g hg
  · have h := C.2.2
    refine ⟨?_, ?_, ?_, ?_, ?_⟩
    · rw [zU_self, up_at]
    · rw [zU_ne (by omega), up_ne (by omega)]; exact h.2.1
    · rw [zU_ne (by omega), up_ne (by omega)]; exact h.2.2.1
    · rw [zU_ne (by omega), up_ne (by omega)]; exact h.2.2.2.1
    · rw [zU_ne (by omega), up_ne (by omega)]; exact h.2.2.2.2
theorem CS.f46 (C : CS I a T) {x : Nat} : CS (zU I a 7 (nI x)) a (up T 46 x) := by
  refine ⟨fun p hp => ?_, fun g hg => ?_, ?_⟩
  · rw [up_ne (by omega), up_ne (by omega), up_ne (by omega), zU_off (by omega), zU_off (by omega), zU_off (by omega)]
    exact C.1 p hp
  · rw [up_ne (by omega), up_ne (by omega), up_ne (by omega), zU_off (by omega), zU_off (by omega), zU_off (by omega)]
    exact C.2.1 g hg
  · have h := C.2.2
    refine ⟨?_, ?_, ?_, ?_, ?_⟩
    · rw [zU_ne (by omega), up_ne (by omega)]; exact h.1
    · rw [zU_self, up_at]
    · rw [zU_ne (by omega), up_ne (by omega)]; exact h.2.2.1
    · rw [zU_ne (by omega), up_ne (by omega)]; exact h.2.2.2.1
    · rw [zU_ne (by omega), up_ne (by omega)]; exact h.2.2.2.2
theorem CS.f47 (C : CS I a T) {x : Nat} : CS (zU I a 8 (nI x)) a (up T 47 x) := by
  refine ⟨fun p hp => ?_, fun g hg => ?_, ?_⟩
  · rw [up_ne (by omega), up_ne (by omega), up_ne (by omega), zU_off (by omega), zU_off (by omega), zU_off (by omega)]
    exact C.1 p hp
  · rw [up_ne (by omega), up_ne (by omega), up_ne (by omega), zU_off (by omega), zU_off (by omega), zU_off (by omega)]
    exact C.2.1 g hg
  · have h := C.2.2
    refine ⟨?_, ?_, ?_, ?_, ?_⟩
    · rw [zU_ne (by omega), up_ne (by omega)]; exact h.1
    · rw [zU_ne (by omega), up_ne (by omega)]; exact h.2.1
    · rw [zU_self, up_at]
    · rw [zU_ne (by omega), up_ne (by omega)]; exact h.2.2.2.1
    · rw [zU_ne (by omega), up_ne (by omega)]; exact h.2.2.2.2
theorem CS.f48 (C : CS I a T) {x : Nat} : CS (zU I a 9 (nI x)) a (up T 48 x) := by
  refine ⟨fun p hp => ?_, fun g hg => ?_, ?_⟩
  · rw [up_ne (by omega), up_ne (by omega), up_ne (by omega), zU_off (by omega), zU_off (by omega), zU_off (by omega)]
    exact C.1 p hp
  · rw [up_ne (by omega), up_ne (by omega), up_ne (by omega), zU_off (by omega), zU_off (by omega), zU_off (by omega)]
    exact C.2.1 g hg
  · have h := C.2.2
    refine ⟨?_, ?_, ?_, ?_, ?_⟩
    · rw [zU_ne (by omega), up_ne (by omega)]; exact h.1
    · rw [zU_ne (by omega), up_ne (by omega)]; exact h.2.1
    · rw [zU_ne (by omega), up_ne (by omega)]; exact h.2.2.1
    · rw [zU_self, up_at]
    · rw [zU_ne (by omega), up_ne (by omega)]; exact h.2.2.2.2
theorem CS.f49 (C : CS I a T) {x : Nat} : CS (zU I a 10 (nI x)) a (up T 49 x) := by
  refine ⟨fun p hp => ?_, fun g hg => ?_, ?_⟩
  · rw [up_ne (by omega), up_ne (by omega), up_ne (by omega), zU_off (by omega), zU_off (by omega), zU_off (by omega)]
    exact C.1 p hp
  · rw [up_ne (by omega), up_ne (by omega), up_ne (by omega), zU_off (by omega), zU_off (by omega), zU_off (by omega)]
    exact C.2.1 g hg
  · have h := C.2.2
    refine ⟨?_, ?_, ?_, ?_, ?_⟩
    · rw [zU_ne (by omega), up_ne (by omega)]; exact h.1
    · rw [zU_ne (by omega), up_ne (by omega)]; exact h.2.1
    · rw [zU_ne (by omega), up_ne (by omega)]; exact h.2.2.1
    · rw [zU_ne (by omega), up_ne (by omega)]; exact h.2.2.2.1
    · rw [zU_self, up_at]
theorem CS.f11 (C : CS I a T) {x : Int32} : CS (zU I a 11 x) a T := by
  refine ⟨fun p hp => ?_, fun g hg => ?_, ?_⟩
  · rw [zU_off (by omega), zU_off (by omega), zU_off (by omega)]
    exact C.1 p hp
  · rw [zU_off (by omega), zU_off (by omega), zU_off (by omega)]
    exact C.2.1 g hg
  · rw [zU_ne (by omega), zU_ne (by omega), zU_ne (by omega), zU_ne (by omega), zU_ne (by omega)]
    exact C.2.2
/-- a place without a wrong -/
def zeroT (T : Nat → Nat) (p : Nat) : Nat → Nat := up (up (up T (3 * p) 0) (3 * p + 1) 0) (3 * p + 2) 0
theorem zeroT_ne {p j : Nat} (h : j < 3 * p ∨ 3 * p + 2 < j) : zeroT T p j = T j := by
  unfold zeroT
  rw [up_ne (by omega), up_ne (by omega), up_ne (by omega)]
theorem zeroT_at {p j : Nat} (h : 3 * p ≤ j) (h2 : j ≤ 3 * p + 2) : zeroT T p j = 0 := by
  unfold zeroT up
  split
  · rfl
  · split
    · rfl
    · split
      · rfl
      · omega
theorem CS.zero (C : CS I a T) {p : Nat} (hp : p < 9) : CS (zU I (a + 3) p (nI 0)) a (zeroT T p) := by
  refine ⟨fun q hq => ?_, fun g hg => ?_, ?_⟩
  · by_cases e : q = p
    · subst e
      rw [zeroT_at (j := 3 * q + 2) (by omega) (by omega)]
      exact ⟨zU_self .., fun h => absurd h (by omega)⟩
    · rw [zeroT_ne (by omega), zeroT_ne (by omega), zeroT_ne (by omega), zU_ne (by omega), zU_off (by omega), zU_off (by omega)]
      exact C.1 q hq
  · rw [zeroT_ne (by omega), zeroT_ne (by omega), zeroT_ne (by omega), zU_off (by omega), zU_off (by omega), zU_off (by omega)]
    exact C.2.1 g hg
  · rw [zeroT_ne (by omega), zeroT_ne (by omega), zeroT_ne (by omega), zeroT_ne (by omega), zeroT_ne (by omega), zU_off (by omega)]
    exact C.2.2
/-- a wrong in a place -/
def sinT (T : Nat → Nat) (p one other w : Nat) : Nat → Nat := up (up (up T (3 * p) one) (3 * p + 1) other) (3 * p + 2) w
theorem sinT_ne {p j x y z : Nat} (h : j < 3 * p ∨ 3 * p + 2 < j) : sinT T p x y z j = T j := by
  unfold sinT
  rw [up_ne (by omega), up_ne (by omega), up_ne (by omega)]
theorem CS.sin (C : CS I a T) {p x y z : Nat} (hp : p < 9) : CS (zU (zU (zU I (a + 1) p (nI x)) (a + 2) p (nI y)) (a + 3) p (nI z)) a (sinT T p x y z) := by
  refine ⟨fun q hq => ?_, fun g hg => ?_, ?_⟩
  · by_cases e : q = p
    · subst e
      have e1 : sinT T q x y z (3 * q + 2) = z := up_at
      have e2 : sinT T q x y z (3 * q) = x := by unfold sinT; rw [up_ne (by omega), up_ne (by omega), up_at]
      have e3 : sinT T q x y z (3 * q + 1) = y := by unfold sinT; rw [up_ne (by omega), up_at]
      rw [e1, e2, e3]
      refine ⟨zU_self .., fun _ => ⟨?_, ?_⟩⟩
      · rw [zU_off (by omega), zU_off (by omega), zU_self]
      · rw [zU_off (by omega), zU_self]
    · rw [sinT_ne (by omega), sinT_ne (by omega), sinT_ne (by omega), zU_ne (by omega), zU_off (b := a + 3) (by omega), zU_off (b := a + 3) (by omega), zU_off (b := a + 1) (by omega), zU_off (b := a + 1) (by omega), zU_ne (by omega), zU_off (b := a + 2) (by omega), zU_ne (by omega), zU_off (b := a + 2) (by omega)]
      exact C.1 q hq
  · rw [sinT_ne (by omega), sinT_ne (by omega), sinT_ne (by omega), zU_off (by omega), zU_off (by omega), zU_off (by omega), zU_off (by omega), zU_off (by omega), zU_off (by omega), zU_off (by omega), zU_off (by omega), zU_off (by omega)]
    exact C.2.1 g hg
  · rw [sinT_ne (by omega), sinT_ne (by omega), sinT_ne (by omega), sinT_ne (by omega), sinT_ne (by omega), zU_off (by omega), zU_off (by omega), zU_off (by omega)]
    exact C.2.2
end
