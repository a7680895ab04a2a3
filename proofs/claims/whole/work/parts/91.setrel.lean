/-! A SET PAINTED OFF AND THE SAME SET FORGIVEN -/
def pntF (Wc : Nat → Nat → Nat → Nat → Nat → Nat → Nat) (Y : Nat → Nat) (s : Nat) (T : Nat → Nat) : Nat → (Nat → Nat) × Nat
  | 0 => (T, 0)
  | i + 1 => if s.testBit i = true then (paintT Wc Y (pntF Wc Y s T i).1 i, (pntF Wc Y s T i).2 + yardsA Wc Y (pntF Wc Y s T i).1 i) else pntF Wc Y s T i
theorem pntF_low {Wc : Nat → Nat → Nat → Nat → Nat → Nat → Nat} {Y T : Nat → Nat} {s k : Nat} (hk : k < 27) : ∀ i, (pntF Wc Y s T i).1 k = T k
  | 0 => rfl
  | i + 1 => by
    rw [pntF]
    split
    · show paintT Wc Y _ i k = T k
      rw [paint_low hk]
      exact pntF_low hk i
    · exact pntF_low hk i
section
variable {Z : Nat → Prop} {Tc Tm Y T : Nat → Nat} {Wc : Nat → Nat → Nat → Nat → Nat → Nat → Nat} {B nf p s : Nat}
theorem WipR.yards (h : WipR Z Tc Tm) (e : Tm (3 * p) = Tc (3 * p) ∧ Tm (3 * p + 1) = Tc (3 * p + 1) ∧ Tm (3 * p + 2) = Tc (3 * p + 2)) (h1 : Tc (3 * p) < 6) (h2 : Tc (3 * p + 1) < 6) : yardsA Wc Y Tm p = yardsA Wc Y Tc p := by
  unfold yardsA
  rw [e.1, e.2.1, e.2.2, h.bare h2, h.1 (29 + 3 * Tc (3 * p)) (by omega) (by omega) (by omega), h.1 47 (by omega) (by omega) (by omega), h.1 49 (by omega) (by omega) (by omega)]
theorem set_rel (O : okT B nf Y T) (h6 : nf ≤ 6) (ho : ∀ p, p < 9 → s.testBit p = true → 0 < T (3 * p + 2)) : ∀ i, i ≤ 9 → WipR (fun p => p < i) (pntF Wc Y s T i).1 (setF Wc Y s T i).1 ∧ (pntF Wc Y s T i).2 = (setF Wc Y s T i).2
  | 0, _ => ⟨⟨fun _ _ _ _ => rfl, fun _ _ => Or.inl ⟨rfl, rfl, rfl⟩⟩, rfl⟩
  | i + 1, hi => by
    obtain ⟨r, e⟩ := set_rel O h6 ho i (by omega)
    have w : WipR (fun p => p < i + 1) (pntF Wc Y s T i).1 (setF Wc Y s T i).1 := r.wide (fun p _ h => by omega)
    rw [pntF, setF]
    by_cases hb : s.testBit i = true
    · rw [if_pos hb, if_pos hb]
      have sm := (r.2 i (by omega)).resolve_right (fun h => absurd h.2 (by omega))
      obtain ⟨o1, o2, -⟩ := (O.1 i (by omega)).2 (ho i (by omega) hb)
      have l1 : (pntF Wc Y s T i).1 (3 * i) < 6 := by rw [pntF_low (by omega)]; omega
      have l2 : (pntF Wc Y s T i).1 (3 * i + 1) < 6 := by rw [pntF_low (by omega)]; omega
      exact ⟨w.pardon (by omega) sm l1 l2 (by omega), by show _ + _ = _ + _; rw [e, r.yards sm l1 l2]⟩
    · rw [if_neg hb, if_neg hb]
      exact ⟨w, e⟩
end
