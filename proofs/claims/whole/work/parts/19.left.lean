theorem zU_a {α : Type} (f : Nat → Nat → α) (a k : Nat) (v : α) (j : Nat) : zU f a k v a j = if j = k then v else f a j := by simp [zU]
theorem zFr_at' {α : Type} {f : Nat → Nat → α} {n b : Nat} {v : α} (h : b = n) : zFr f n v b = fun _ => v := by subst h; exact zFr_at
theorem zKr_off {K : Nat → Nat × Nat} {n b : Nat} {p : Nat × Nat} (h : b ≠ n) : zKr K n p b = K b := if_neg h
theorem zKr_at' {K : Nat → Nat × Nat} {n b : Nat} {p : Nat × Nat} (h : b = n) : zKr K n p b = p := if_pos h
theorem zMf_off {α : Type} {f : Nat → Nat → α} {n N b : Nat} {v : α} (h : b < n ∨ n + 1 + N ≤ b) : zMf f n N v b = f b := by funext j; exact if_neg (by omega)
theorem zMf_in {α : Type} {f : Nat → Nat → α} {n N b : Nat} {v : α} (h : n ≤ b ∧ b < n + 1 + N) : zMf f n N v b = fun _ => v := by funext j; exact if_pos h
theorem zMr_off {R : Nat → Nat → Option Nat} {n N b : Nat} (h : b < n ∨ n + 1 + N ≤ b) : zMr R n N b = R b := by funext j; unfold zMr; rw [if_neg (by omega), if_neg (by omega)]
theorem zMr_at' {R : Nat → Nat → Option Nat} {n N b j : Nat} (h : b = n) (hj : j < N) : zMr R n N b j = some (n + 1 + j) := by unfold zMr; rw [if_pos h, if_pos hj]
theorem zMk_off {K : Nat → Nat × Nat} {n N len b : Nat} (h : b < n ∨ n + 1 + N ≤ b) : zMk K n N len b = K b := by unfold zMk; rw [if_neg (by omega), if_neg (by omega)]
theorem zMk_at' {K : Nat → Nat × Nat} {n N len b : Nat} (h : b = n) : zMk K n N len b = (36, N) := if_pos h
theorem zMk_in {K : Nat → Nat × Nat} {n N len b : Nat} (h : n < b ∧ b < n + 1 + N) : zMk K n N len b = (32, len) := by unfold zMk; rw [if_neg (by omega), if_pos (by omega)]
theorem zx_U {α : Type} {f : Nat → Nat → α} {a n k : Nat} {v z : α} (h : ∀ b j, a < b → b < n → f b j = z) : ∀ b j, a < b → b < n → zU f a k v b j = z := fun b j h1 h2 => by rw [zU_off (by omega)]; exact h b j h1 h2
theorem zx_F {α : Type} {f : Nat → Nat → α} {a n n1 : Nat} {z : α} (h : ∀ b j, a < b → b < n → f b j = z) (hn : n1 = n + 1) : ∀ b j, a < b → b < n1 → zFr f n z b j = z := fun b j h1 h2 => by
  by_cases e : b = n
  · rw [zFr_at' e]
  · rw [zFr_off e]; exact h b j h1 (by omega)
theorem zx_M {α : Type} {f : Nat → Nat → α} {a n N n1 : Nat} {z : α} (h : ∀ b j, a < b → b < n → f b j = z) (hn : n1 = n + 1 + N) : ∀ b j, a < b → b < n1 → zMf f n N z b j = z := fun b j h1 h2 => by
  by_cases e : b < n
  · rw [zMf_off (Or.inl e)]; exact h b j h1 e
  · rw [zMf_in (by omega)]
theorem zx_0 {α : Type} {f : Nat → Nat → α} {a : Nat} {z : α} : ∀ b j, a < b → b < a + 1 → f b j = z := fun b j h1 h2 => by omega
set_option maxHeartbeats 4000000 in
theorem fX9 {G : zG} {I : Nat → Nat → Int32} {J : Nat → Nat → Int64} {R : Nat → Nat → Option Nat} {K : Nat → Nat × Nat} {a : Nat} (hz : G.1 ≤ a) (hk : K a = (9, 0)) (hI : ∀ j, I a j = 0) : ∃ I1 J1 R1 K1, ctX9 I J R K (a + 1) a = (I1, J1, R1, K1, a + 1 + 1) ∧ zFm a I I1 J J1 R R1 K K1 ∧ (sO G K1 (a + 1 + 1) (a) 9 ∧ R1 (a) 0 = some (a + 1) ∧ sA G K1 (a + 1 + 1) (a + 1) 32 240) ∧ (∀ b j, a < b → b < a + 1 + 1 → I1 b j = 0) ∧ ((∀ j, I1 a j = 0)) ∧ (∀ b j, a < b → b < a + 1 + 1 → J1 b j = 0) ∧ (∀ j, J a j = 0 → J1 a j = 0) := by
  refine ⟨_, _, _, _, rfl, ⟨fun b hb => ?_, fun b hb => ?_, fun b hb => ?_, fun b hb => ?_⟩, ⟨⟨hz, by omega, by simp (disch := omega) only [zKr_off, zKr_at', zMk_off, zMk_at', zMk_in, hk]⟩, (by simp (disch := omega) [zU_a, zU_off, zFr_off, zFr_at', zMr_off]), ⟨by omega, by omega, by simp (disch := omega) only [zKr_off, zKr_at', zMk_off, zMk_at', zMk_in]⟩⟩, fun b j h1 h2 => ?_, ?_, fun b j h1 h2 => ?_, fun j hj => ?_⟩
  · simp (disch := omega) only [zU_off, zFr_off, zMf_off]
  · simp (disch := omega) only [zU_off, zFr_off, zMf_off]
  · simp (disch := omega) only [zU_off, zFr_off, zMr_off]
  · simp (disch := omega) only [zKr_off, zMk_off]
  · exact (zx_U (zx_U (zx_F zx_0 (by omega)))) b j h1 h2
  · intro j
    simp (disch := omega) only [zU_a, zFr_off, zMf_off, hI]
    repeat' split
    all_goals first | rfl | (exfalso; simp_all; done)
  · exact (zx_F zx_0 (by omega)) b j h1 h2
  · simp (disch := omega) only [zU_a, zFr_off, zMf_off, hj]
    try (repeat' split <;> first | rfl | (exfalso; simp_all; done))
set_option maxHeartbeats 4000000 in
theorem fX10 {G : zG} {I : Nat → Nat → Int32} {J : Nat → Nat → Int64} {R : Nat → Nat → Option Nat} {K : Nat → Nat × Nat} {a : Nat} (hz : G.1 ≤ a) (hk : K a = (10, 0)) (hI : ∀ j, I a j = 0) : ∃ I1 J1 R1 K1, ctX10 I J R K (a + 1) a = (I1, J1, R1, K1, a + 1 + 6) ∧ zFm a I I1 J J1 R R1 K K1 ∧ (sO G K1 (a + 1 + 6) (a) 10 ∧ R1 (a) 0 = some (a + 1) ∧ sA G K1 (a + 1 + 6) (a + 1) 32 6 ∧ R1 (a) 1 = some (a + 2) ∧ sA G K1 (a + 1 + 6) (a + 2) 32 6 ∧ R1 (a) 2 = some (a + 3) ∧ sA G K1 (a + 1 + 6) (a + 3) 32 9 ∧ R1 (a) 3 = some (a + 4) ∧ sA G K1 (a + 1 + 6) (a + 4) 32 9 ∧ R1 (a) 4 = some (a + 5) ∧ sA G K1 (a + 1 + 6) (a + 5) 32 9 ∧ R1 (a) 10 = some (a + 6) ∧ sA G K1 (a + 1 + 6) (a + 6) 32 3) ∧ (∀ b j, a < b → b < a + 1 + 6 → I1 b j = 0) ∧ ((∀ j, I1 a j = 0)) ∧ (∀ b j, a < b → b < a + 1 + 6 → J1 b j = 0) ∧ (∀ j, J a j = 0 → J1 a j = 0) := by
  refine ⟨_, _, _, _, rfl, ⟨fun b hb => ?_, fun b hb => ?_, fun b hb => ?_, fun b hb => ?_⟩, ⟨⟨hz, by omega, by simp (disch := omega) only [zKr_off, zKr_at', zMk_off, zMk_at', zMk_in, hk]⟩, (by simp (disch := omega) [zU_a, zU_off, zFr_off, zFr_at', zMr_off]), ⟨by omega, by omega, by simp (disch := omega) only [zKr_off, zKr_at', zMk_off, zMk_at', zMk_in]⟩, (by simp (disch := omega) [zU_a, zU_off, zFr_off, zFr_at', zMr_off]), ⟨by omega, by omega, by simp (disch := omega) only [zKr_off, zKr_at', zMk_off, zMk_at', zMk_in]⟩, (by simp (disch := omega) [zU_a, zU_off, zFr_off, zFr_at', zMr_off]), ⟨by omega, by omega, by simp (disch := omega) only [zKr_off, zKr_at', zMk_off, zMk_at', zMk_in]⟩, (by simp (disch := omega) [zU_a, zU_off, zFr_off, zFr_at', zMr_off]), ⟨by omega, by omega, by simp (disch := omega) only [zKr_off, zKr_at', zMk_off, zMk_at', zMk_in]⟩, (by simp (disch := omega) [zU_a, zU_off, zFr_off, zFr_at', zMr_off]), ⟨by omega, by omega, by simp (disch := omega) only [zKr_off, zKr_at', zMk_off, zMk_at', zMk_in]⟩, (by simp (disch := omega) [zU_a, zU_off, zFr_off, zFr_at', zMr_off]), ⟨by omega, by omega, by simp (disch := omega) only [zKr_off, zKr_at', zMk_off, zMk_at', zMk_in]⟩⟩, fun b j h1 h2 => ?_, ?_, fun b j h1 h2 => ?_, fun j hj => ?_⟩
  · simp (disch := omega) only [zU_off, zFr_off, zMf_off]
  · simp (disch := omega) only [zU_off, zFr_off, zMf_off]
  · simp (disch := omega) only [zU_off, zFr_off, zMr_off]
  · simp (disch := omega) only [zKr_off, zMk_off]
  · exact (zx_F (zx_U (zx_U (zx_U (zx_U (zx_U (zx_F (zx_F (zx_F (zx_F (zx_F zx_0 (by omega)) (by omega)) (by omega)) (by omega)) (by omega))))))) (by omega)) b j h1 h2
  · intro j
    simp (disch := omega) only [zU_a, zFr_off, zMf_off, hI]
    repeat' split
    all_goals first | rfl | (exfalso; simp_all; done)
  · exact (zx_F (zx_F (zx_F (zx_F (zx_F (zx_F zx_0 (by omega)) (by omega)) (by omega)) (by omega)) (by omega)) (by omega)) b j h1 h2
  · simp (disch := omega) only [zU_a, zFr_off, zMf_off, hj]
    try (repeat' split <;> first | rfl | (exfalso; simp_all; done))
set_option maxHeartbeats 4000000 in
theorem fX8 {G : zG} {I : Nat → Nat → Int32} {J : Nat → Nat → Int64} {R : Nat → Nat → Option Nat} {K : Nat → Nat × Nat} {a : Nat} (p1 : Nat) (hz : G.1 ≤ a) (hk : K a = (8, 0)) (hI : ∀ j, I a j = 0) : ∃ I1 J1 R1 K1, ctX8 I J R K (a + 1) a p1 = (I1, J1, R1, K1, a + 1 + 7) ∧ zFm a I I1 J J1 R R1 K K1 ∧ (sO G K1 (a + 1 + 7) (a) 8 ∧ R1 (a) 0 = some (a + 1) ∧ sA G K1 (a + 1 + 7) (a + 1) 32 9 ∧ R1 (a) 1 = some (a + 2) ∧ sA G K1 (a + 1 + 7) (a + 2) 32 9 ∧ R1 (a) 2 = some (a + 3) ∧ sA G K1 (a + 1 + 7) (a + 3) 32 9 ∧ R1 (a) 3 = some (a + 4) ∧ sA G K1 (a + 1 + 7) (a + 4) 32 6 ∧ R1 (a) 4 = some (a + 5) ∧ sA G K1 (a + 1 + 7) (a + 5) 32 6 ∧ R1 (a) 5 = some (a + 6) ∧ sA G K1 (a + 1 + 7) (a + 6) 32 6 ∧ R1 (a) 12 = some (p1) ∧ R1 (a) 13 = some (a + 7) ∧ sA G K1 (a + 1 + 7) (a + 7) 32 50) ∧ (∀ b j, a < b → b < a + 1 + 7 → I1 b j = 0) ∧ ((∀ j, I1 a j = 0)) ∧ (∀ b j, a < b → b < a + 1 + 7 → J1 b j = 0) ∧ (∀ j, J a j = 0 → J1 a j = 0) := by
  refine ⟨_, _, _, _, rfl, ⟨fun b hb => ?_, fun b hb => ?_, fun b hb => ?_, fun b hb => ?_⟩, ⟨⟨hz, by omega, by simp (disch := omega) only [zKr_off, zKr_at', zMk_off, zMk_at', zMk_in, hk]⟩, (by simp (disch := omega) [zU_a, zU_off, zFr_off, zFr_at', zMr_off]), ⟨by omega, by omega, by simp (disch := omega) only [zKr_off, zKr_at', zMk_off, zMk_at', zMk_in]⟩, (by simp (disch := omega) [zU_a, zU_off, zFr_off, zFr_at', zMr_off]), ⟨by omega, by omega, by simp (disch := omega) only [zKr_off, zKr_at', zMk_off, zMk_at', zMk_in]⟩, (by simp (disch := omega) [zU_a, zU_off, zFr_off, zFr_at', zMr_off]), ⟨by omega, by omega, by simp (disch := omega) only [zKr_off, zKr_at', zMk_off, zMk_at', zMk_in]⟩, (by simp (disch := omega) [zU_a, zU_off, zFr_off, zFr_at', zMr_off]), ⟨by omega, by omega, by simp (disch := omega) only [zKr_off, zKr_at', zMk_off, zMk_at', zMk_in]⟩, (by simp (disch := omega) [zU_a, zU_off, zFr_off, zFr_at', zMr_off]), ⟨by omega, by omega, by simp (disch := omega) only [zKr_off, zKr_at', zMk_off, zMk_at', zMk_in]⟩, (by simp (disch := omega) [zU_a, zU_off, zFr_off, zFr_at', zMr_off]), ⟨by omega, by omega, by simp (disch := omega) only [zKr_off, zKr_at', zMk_off, zMk_at', zMk_in]⟩, (by simp (disch := omega) [zU_a, zU_off, zFr_off, zFr_at', zMr_off]), (by simp (disch := omega) [zU_a, zU_off, zFr_off, zFr_at', zMr_off]), ⟨by omega, by omega, by simp (disch := omega) only [zKr_off, zKr_at', zMk_off, zMk_at', zMk_in]⟩⟩, fun b j h1 h2 => ?_, ?_, fun b j h1 h2 => ?_, fun j hj => ?_⟩
  · simp (disch := omega) only [zU_off, zFr_off, zMf_off]
  · simp (disch := omega) only [zU_off, zFr_off, zMf_off]
  · simp (disch := omega) only [zU_off, zFr_off, zMr_off]
  · simp (disch := omega) only [zKr_off, zMk_off]
  · exact (zx_F (zx_U (zx_U (zx_U (zx_U (zx_U (zx_U (zx_F (zx_F (zx_F (zx_F (zx_F (zx_F zx_0 (by omega)) (by omega)) (by omega)) (by omega)) (by omega)) (by omega)))))))) (by omega)) b j h1 h2
  · intro j
    simp (disch := omega) only [zU_a, zFr_off, zMf_off, hI]
    repeat' split
    all_goals first | rfl | (exfalso; simp_all; done)
  · exact (zx_F (zx_F (zx_F (zx_F (zx_F (zx_F (zx_F zx_0 (by omega)) (by omega)) (by omega)) (by omega)) (by omega)) (by omega)) (by omega)) b j h1 h2
  · simp (disch := omega) only [zU_a, zFr_off, zMf_off, hj]
    try (repeat' split <;> first | rfl | (exfalso; simp_all; done))
set_option maxHeartbeats 4000000 in
theorem fX1 {G : zG} {I : Nat → Nat → Int32} {J : Nat → Nat → Int64} {R : Nat → Nat → Option Nat} {K : Nat → Nat × Nat} {a : Nat} (hz : G.1 ≤ a) (hk : K a = (1, 0)) (hI : ∀ j, I a j = 0) : ∃ I1 J1 R1 K1, ctX1 I J R K (a + 1) a = (I1, J1, R1, K1, a + 1 + 51) ∧ zFm a I I1 J J1 R R1 K K1 ∧ (sO G K1 (a + 1 + 51) (a) 1 ∧ R1 (a) 1 = some (a + 1) ∧ sA G K1 (a + 1 + 51) (a + 1) 36 41 ∧ (∀ i : Nat, i < 41 → R1 (a + 1) i = some (a + 2 + i) ∧ sA G K1 (a + 1 + 51) (a + 2 + i) 32 50) ∧ R1 (a) 3 = some (a + 43) ∧ sA G K1 (a + 1 + 51) (a + 43) 36 3 ∧ (∀ i : Nat, i < 3 → R1 (a + 43) i = some (a + 44 + i) ∧ sA G K1 (a + 1 + 51) (a + 44 + i) 32 100) ∧ R1 (a) 5 = some (a + 47) ∧ sA G K1 (a + 1 + 51) (a + 47) 32 50 ∧ R1 (a) 6 = some (a + 48) ∧ sA G K1 (a + 1 + 51) (a + 48) 36 3 ∧ (∀ i : Nat, i < 3 → R1 (a + 48) i = some (a + 49 + i) ∧ sA G K1 (a + 1 + 51) (a + 49 + i) 32 60)) ∧ (∀ b j, a < b → b < a + 1 + 51 → I1 b j = 0) ∧ ((∀ j, I1 a j = 0)) ∧ (∀ b j, a < b → b < a + 1 + 51 → J1 b j = 0) ∧ (∀ j, J a j = 0 → J1 a j = 0) := by
  refine ⟨_, _, _, _, rfl, ⟨fun b hb => ?_, fun b hb => ?_, fun b hb => ?_, fun b hb => ?_⟩, ⟨⟨hz, by omega, by simp (disch := omega) only [zKr_off, zKr_at', zMk_off, zMk_at', zMk_in, hk]⟩, (by simp (disch := omega) [zU_a, zU_off, zFr_off, zFr_at', zMr_off]), ⟨by omega, by omega, by simp (disch := omega) only [zKr_off, zKr_at', zMk_off, zMk_at', zMk_in]⟩, (fun i hi => ⟨by simp (disch := omega) only [zU_off, zFr_off, zMr_off, zMr_at'] <;> try (first | rfl | (congr 1; omega)), ⟨by omega, by omega, by simp (disch := omega) only [zKr_off, zMk_off, zMk_in]⟩⟩), (by simp (disch := omega) [zU_a, zU_off, zFr_off, zFr_at', zMr_off]), ⟨by omega, by omega, by simp (disch := omega) only [zKr_off, zKr_at', zMk_off, zMk_at', zMk_in]⟩, (fun i hi => ⟨by simp (disch := omega) only [zU_off, zFr_off, zMr_off, zMr_at'] <;> try (first | rfl | (congr 1; omega)), ⟨by omega, by omega, by simp (disch := omega) only [zKr_off, zMk_off, zMk_in]⟩⟩), (by simp (disch := omega) [zU_a, zU_off, zFr_off, zFr_at', zMr_off]), ⟨by omega, by omega, by simp (disch := omega) only [zKr_off, zKr_at', zMk_off, zMk_at', zMk_in]⟩, (by simp (disch := omega) [zU_a, zU_off, zFr_off, zFr_at', zMr_off]), ⟨by omega, by omega, by simp (disch := omega) only [zKr_off, zKr_at', zMk_off, zMk_at', zMk_in]⟩, (fun i hi => ⟨by simp (disch := omega) only [zU_off, zFr_off, zMr_off, zMr_at'] <;> try (first | rfl | (congr 1; omega)), ⟨by omega, by omega, by simp (disch := omega) only [zKr_off, zMk_off, zMk_in]⟩⟩)⟩, fun b j h1 h2 => ?_, ?_, fun b j h1 h2 => ?_, fun j hj => ?_⟩
  · simp (disch := omega) only [zU_off, zFr_off, zMf_off]
  · simp (disch := omega) only [zU_off, zFr_off, zMf_off]
  · simp (disch := omega) only [zU_off, zFr_off, zMr_off]
  · simp (disch := omega) only [zKr_off, zMk_off]
  · exact (zx_M (zx_F (zx_U (zx_M (zx_U (zx_M (zx_U zx_0) (by omega))) (by omega))) (by omega)) (by omega)) b j h1 h2
  · intro j
    simp (disch := omega) only [zU_a, zFr_off, zMf_off, hI]
    repeat' split
    all_goals first | rfl | (exfalso; simp_all; done)
  · exact (zx_M (zx_F (zx_M (zx_M zx_0 (by omega)) (by omega)) (by omega)) (by omega)) b j h1 h2
  · simp (disch := omega) only [zU_a, zFr_off, zMf_off, hj]
    try (repeat' split <;> first | rfl | (exfalso; simp_all; done))
set_option maxHeartbeats 4000000 in
theorem fX4 {G : zG} {I : Nat → Nat → Int32} {J : Nat → Nat → Int64} {R : Nat → Nat → Option Nat} {K : Nat → Nat × Nat} {a : Nat} (p1 : Nat) (hz : G.1 ≤ a) (hk : K a = (4, 0)) (hI : ∀ j, I a j = 0) : ∃ I1 J1 R1 K1, ctX4 I J R K (a + 1) a p1 = (I1, J1, R1, K1, a + 1 + 1) ∧ zFm a I I1 J J1 R R1 K K1 ∧ (sO G K1 (a + 1 + 1) (a) 4 ∧ R1 (a) 6 = some (p1) ∧ R1 (a) 7 = some (a + 1) ∧ sA G K1 (a + 1 + 1) (a + 1) 32 9) ∧ (∀ b j, a < b → b < a + 1 + 1 → I1 b j = 0) ∧ (I1 a 0 = (-1) ∧ I1 a 1 = (-1) ∧ I1 a 2 = (-1) ∧ (∀ j, j ≠ 0 → j ≠ 1 → j ≠ 2 → I1 a j = 0)) ∧ (∀ b j, a < b → b < a + 1 + 1 → J1 b j = 0) ∧ (∀ j, J a j = 0 → J1 a j = 0) := by
  refine ⟨_, _, _, _, rfl, ⟨fun b hb => ?_, fun b hb => ?_, fun b hb => ?_, fun b hb => ?_⟩, ⟨⟨hz, by omega, by simp (disch := omega) only [zKr_off, zKr_at', zMk_off, zMk_at', zMk_in, hk]⟩, (by simp (disch := omega) [zU_a, zU_off, zFr_off, zFr_at', zMr_off]), (by simp (disch := omega) [zU_a, zU_off, zFr_off, zFr_at', zMr_off]), ⟨by omega, by omega, by simp (disch := omega) only [zKr_off, zKr_at', zMk_off, zMk_at', zMk_in]⟩⟩, fun b j h1 h2 => ?_, ?_, fun b j h1 h2 => ?_, fun j hj => ?_⟩
  · simp (disch := omega) only [zU_off, zFr_off, zMf_off]
  · simp (disch := omega) only [zU_off, zFr_off, zMf_off]
  · simp (disch := omega) only [zU_off, zFr_off, zMr_off]
  · simp (disch := omega) only [zKr_off, zMk_off]
  · exact (zx_F (zx_U (zx_U (zx_U (zx_U (zx_U (zx_U zx_0)))))) (by omega)) b j h1 h2
  · refine ⟨by simp (disch := omega) [zU_a, zFr_off, zMf_off], by simp (disch := omega) [zU_a, zFr_off, zMf_off], by simp (disch := omega) [zU_a, zFr_off, zMf_off], fun j _ _ _ => ?_⟩
    simp (disch := omega) only [zU_a, zFr_off, zMf_off, hI]
    repeat' split
    all_goals first | rfl | (exfalso; simp_all; done)
  · exact (zx_F zx_0 (by omega)) b j h1 h2
  · simp (disch := omega) only [zU_a, zFr_off, zMf_off, hj]
    try (repeat' split <;> first | rfl | (exfalso; simp_all; done))
set_option maxHeartbeats 4000000 in
theorem fX6 {G : zG} {I : Nat → Nat → Int32} {J : Nat → Nat → Int64} {R : Nat → Nat → Option Nat} {K : Nat → Nat × Nat} {a : Nat} (p1 : Nat) (hz : G.1 ≤ a) (hk : K a = (6, 0)) (hI : ∀ j, I a j = 0) : ∃ I1 J1 R1 K1, ctX6 I J R K (a + 1) a p1 = (I1, J1, R1, K1, a + 1 + 4) ∧ zFm a I I1 J J1 R R1 K K1 ∧ (sO G K1 (a + 1 + 4) (a) 6 ∧ R1 (a) 1 = some (a + 1) ∧ sA G K1 (a + 1 + 4) (a + 1) 32 10 ∧ R1 (a) 2 = some (a + 2) ∧ sA G K1 (a + 1 + 4) (a + 2) 32 10 ∧ R1 (a) 3 = some (a + 3) ∧ sA G K1 (a + 1 + 4) (a + 3) 34 10 ∧ R1 (a) 4 = some (a + 4) ∧ sA G K1 (a + 1 + 4) (a + 4) 32 10 ∧ R1 (a) 5 = some (p1)) ∧ (∀ b j, a < b → b < a + 1 + 4 → I1 b j = 0) ∧ ((∀ j, I1 a j = 0)) ∧ (∀ b j, a < b → b < a + 1 + 4 → J1 b j = 0) ∧ (∀ j, J a j = 0 → J1 a j = 0) := by
  refine ⟨_, _, _, _, rfl, ⟨fun b hb => ?_, fun b hb => ?_, fun b hb => ?_, fun b hb => ?_⟩, ⟨⟨hz, by omega, by simp (disch := omega) only [zKr_off, zKr_at', zMk_off, zMk_at', zMk_in, hk]⟩, (by simp (disch := omega) [zU_a, zU_off, zFr_off, zFr_at', zMr_off]), ⟨by omega, by omega, by simp (disch := omega) only [zKr_off, zKr_at', zMk_off, zMk_at', zMk_in]⟩, (by simp (disch := omega) [zU_a, zU_off, zFr_off, zFr_at', zMr_off]), ⟨by omega, by omega, by simp (disch := omega) only [zKr_off, zKr_at', zMk_off, zMk_at', zMk_in]⟩, (by simp (disch := omega) [zU_a, zU_off, zFr_off, zFr_at', zMr_off]), ⟨by omega, by omega, by simp (disch := omega) only [zKr_off, zKr_at', zMk_off, zMk_at', zMk_in]⟩, (by simp (disch := omega) [zU_a, zU_off, zFr_off, zFr_at', zMr_off]), ⟨by omega, by omega, by simp (disch := omega) only [zKr_off, zKr_at', zMk_off, zMk_at', zMk_in]⟩, (by simp (disch := omega) [zU_a, zU_off, zFr_off, zFr_at', zMr_off])⟩, fun b j h1 h2 => ?_, ?_, fun b j h1 h2 => ?_, fun j hj => ?_⟩
  · simp (disch := omega) only [zU_off, zFr_off, zMf_off]
  · simp (disch := omega) only [zU_off, zFr_off, zMf_off]
  · simp (disch := omega) only [zU_off, zFr_off, zMr_off]
  · simp (disch := omega) only [zKr_off, zMk_off]
  · exact (zx_F (zx_F (zx_F (zx_F (zx_U zx_0) (by omega)) (by omega)) (by omega)) (by omega)) b j h1 h2
  · intro j
    simp (disch := omega) only [zU_a, zFr_off, zMf_off, hI]
    repeat' split
    all_goals first | rfl | (exfalso; simp_all; done)
  · exact (zx_F (zx_F (zx_F (zx_F zx_0 (by omega)) (by omega)) (by omega)) (by omega)) b j h1 h2
  · simp (disch := omega) only [zU_a, zFr_off, zMf_off, hj]
    try (repeat' split <;> first | rfl | (exfalso; simp_all; done))
set_option maxHeartbeats 4000000 in
theorem fX0 {G : zG} {I : Nat → Nat → Int32} {J : Nat → Nat → Int64} {R : Nat → Nat → Option Nat} {K : Nat → Nat × Nat} {a : Nat} (p1 : Nat) (p2 : Nat) (hz : G.1 ≤ a) (hk : K a = (0, 0)) (hI : ∀ j, I a j = 0) : ∃ I1 J1 R1 K1, ctX0 I J R K (a + 1) a p1 p2 = (I1, J1, R1, K1, a + 1 + 9) ∧ zFm a I I1 J J1 R R1 K K1 ∧ (sO G K1 (a + 1 + 9) (a) 0 ∧ R1 (a) 0 = some (a + 1) ∧ sA G K1 (a + 1 + 9) (a + 1) 36 3 ∧ (∀ i : Nat, i < 3 → R1 (a + 1) i = some (a + 2 + i) ∧ sA G K1 (a + 1 + 9) (a + 2 + i) 32 3) ∧ R1 (a) 1 = some (a + 5) ∧ sA G K1 (a + 1 + 9) (a + 5) 36 3 ∧ (∀ i : Nat, i < 3 → R1 (a + 5) i = some (a + 6 + i) ∧ sA G K1 (a + 1 + 9) (a + 6 + i) 32 3) ∧ R1 (a) 2 = some (a + 9) ∧ sA G K1 (a + 1 + 9) (a + 9) 32 9 ∧ R1 (a) 4 = some (p1) ∧ R1 (a) 5 = some (p2)) ∧ (∀ b j, a < b → b < a + 1 + 9 → I1 b j = 0) ∧ ((∀ j, I1 a j = 0)) ∧ (∀ b j, a < b → b < a + 1 + 9 → J1 b j = 0) ∧ (∀ j, J a j = 0 → J1 a j = 0) := by
  refine ⟨_, _, _, _, rfl, ⟨fun b hb => ?_, fun b hb => ?_, fun b hb => ?_, fun b hb => ?_⟩, ⟨⟨hz, by omega, by simp (disch := omega) only [zKr_off, zKr_at', zMk_off, zMk_at', zMk_in, hk]⟩, (by simp (disch := omega) [zU_a, zU_off, zFr_off, zFr_at', zMr_off]), ⟨by omega, by omega, by simp (disch := omega) only [zKr_off, zKr_at', zMk_off, zMk_at', zMk_in]⟩, (fun i hi => ⟨by simp (disch := omega) only [zU_off, zFr_off, zMr_off, zMr_at'] <;> try (first | rfl | (congr 1; omega)), ⟨by omega, by omega, by simp (disch := omega) only [zKr_off, zMk_off, zMk_in]⟩⟩), (by simp (disch := omega) [zU_a, zU_off, zFr_off, zFr_at', zMr_off]), ⟨by omega, by omega, by simp (disch := omega) only [zKr_off, zKr_at', zMk_off, zMk_at', zMk_in]⟩, (fun i hi => ⟨by simp (disch := omega) only [zU_off, zFr_off, zMr_off, zMr_at'] <;> try (first | rfl | (congr 1; omega)), ⟨by omega, by omega, by simp (disch := omega) only [zKr_off, zMk_off, zMk_in]⟩⟩), (by simp (disch := omega) [zU_a, zU_off, zFr_off, zFr_at', zMr_off]), ⟨by omega, by omega, by simp (disch := omega) only [zKr_off, zKr_at', zMk_off, zMk_at', zMk_in]⟩, (by simp (disch := omega) [zU_a, zU_off, zFr_off, zFr_at', zMr_off]), (by simp (disch := omega) [zU_a, zU_off, zFr_off, zFr_at', zMr_off])⟩, fun b j h1 h2 => ?_, ?_, fun b j h1 h2 => ?_, fun j hj => ?_⟩
  · simp (disch := omega) only [zU_off, zFr_off, zMf_off]
  · simp (disch := omega) only [zU_off, zFr_off, zMf_off]
  · simp (disch := omega) only [zU_off, zFr_off, zMr_off]
  · simp (disch := omega) only [zKr_off, zMk_off]
  · exact (zx_U (zx_F (zx_M (zx_M zx_0 (by omega)) (by omega)) (by omega))) b j h1 h2
  · intro j
    simp (disch := omega) only [zU_a, zFr_off, zMf_off, hI]
    repeat' split
    all_goals first | rfl | (exfalso; simp_all; done)
  · exact (zx_F (zx_M (zx_M zx_0 (by omega)) (by omega)) (by omega)) b j h1 h2
  · simp (disch := omega) only [zU_a, zFr_off, zMf_off, hj]
    try (repeat' split <;> first | rfl | (exfalso; simp_all; done))
set_option maxHeartbeats 4000000 in
theorem fX3 {G : zG} {I : Nat → Nat → Int32} {J : Nat → Nat → Int64} {R : Nat → Nat → Option Nat} {K : Nat → Nat × Nat} {a : Nat} (hz : G.1 ≤ a) (hk : K a = (3, 0)) (hI : ∀ j, I a j = 0) : ∃ I1 J1 R1 K1, ctX3 I J R K (a + 1) a = (I1, J1, R1, K1, a + 1 + 1) ∧ zFm a I I1 J J1 R R1 K K1 ∧ (sO G K1 (a + 1 + 1) (a) 3 ∧ R1 (a) 0 = some (a + 1) ∧ sA G K1 (a + 1 + 1) (a + 1) 32 240) ∧ (∀ b j, a < b → b < a + 1 + 1 → I1 b j = 0) ∧ ((∀ j, I1 a j = 0)) ∧ (∀ b j, a < b → b < a + 1 + 1 → J1 b j = 0) ∧ (∀ j, J a j = 0 → J1 a j = 0) := by
  refine ⟨_, _, _, _, rfl, ⟨fun b hb => ?_, fun b hb => ?_, fun b hb => ?_, fun b hb => ?_⟩, ⟨⟨hz, by omega, by simp (disch := omega) only [zKr_off, zKr_at', zMk_off, zMk_at', zMk_in, hk]⟩, (by simp (disch := omega) [zU_a, zU_off, zFr_off, zFr_at', zMr_off]), ⟨by omega, by omega, by simp (disch := omega) only [zKr_off, zKr_at', zMk_off, zMk_at', zMk_in]⟩⟩, fun b j h1 h2 => ?_, ?_, fun b j h1 h2 => ?_, fun j hj => ?_⟩
  · simp (disch := omega) only [zU_off, zFr_off, zMf_off]
  · simp (disch := omega) only [zU_off, zFr_off, zMf_off]
  · simp (disch := omega) only [zU_off, zFr_off, zMr_off]
  · simp (disch := omega) only [zKr_off, zMk_off]
  · exact (zx_U (zx_F zx_0 (by omega))) b j h1 h2
  · intro j
    simp (disch := omega) only [zU_a, zFr_off, zMf_off, hI]
    repeat' split
    all_goals first | rfl | (exfalso; simp_all; done)
  · exact (zx_F zx_0 (by omega)) b j h1 h2
  · simp (disch := omega) only [zU_a, zFr_off, zMf_off, hj]
    try (repeat' split <;> first | rfl | (exfalso; simp_all; done))
set_option maxHeartbeats 4000000 in
theorem fX7 {G : zG} {I : Nat → Nat → Int32} {J : Nat → Nat → Int64} {R : Nat → Nat → Option Nat} {K : Nat → Nat × Nat} {a : Nat} (hz : G.1 ≤ a) (hk : K a = (7, 0)) (hI : ∀ j, I a j = 0) : ∃ I1 J1 R1 K1, ctX7 I J R K (a + 1) a = (I1, J1, R1, K1, a + 1 + 3) ∧ zFm a I I1 J J1 R R1 K K1 ∧ (sO G K1 (a + 1 + 3) (a) 7 ∧ R1 (a) 0 = some (a + 1) ∧ sA G K1 (a + 1 + 3) (a + 1) 32 16 ∧ R1 (a) 1 = some (a + 2) ∧ sA G K1 (a + 1 + 3) (a + 2) 32 16 ∧ R1 (a) 2 = some (a + 3) ∧ sA G K1 (a + 1 + 3) (a + 3) 32 16) ∧ (∀ b j, a < b → b < a + 1 + 3 → I1 b j = 0) ∧ ((∀ j, I1 a j = 0)) ∧ (∀ b j, a < b → b < a + 1 + 3 → J1 b j = 0) ∧ (∀ j, J a j = 0 → J1 a j = 0) := by
  refine ⟨_, _, _, _, rfl, ⟨fun b hb => ?_, fun b hb => ?_, fun b hb => ?_, fun b hb => ?_⟩, ⟨⟨hz, by omega, by simp (disch := omega) only [zKr_off, zKr_at', zMk_off, zMk_at', zMk_in, hk]⟩, (by simp (disch := omega) [zU_a, zU_off, zFr_off, zFr_at', zMr_off]), ⟨by omega, by omega, by simp (disch := omega) only [zKr_off, zKr_at', zMk_off, zMk_at', zMk_in]⟩, (by simp (disch := omega) [zU_a, zU_off, zFr_off, zFr_at', zMr_off]), ⟨by omega, by omega, by simp (disch := omega) only [zKr_off, zKr_at', zMk_off, zMk_at', zMk_in]⟩, (by simp (disch := omega) [zU_a, zU_off, zFr_off, zFr_at', zMr_off]), ⟨by omega, by omega, by simp (disch := omega) only [zKr_off, zKr_at', zMk_off, zMk_at', zMk_in]⟩⟩, fun b j h1 h2 => ?_, ?_, fun b j h1 h2 => ?_, fun j hj => ?_⟩
  · simp (disch := omega) only [zU_off, zFr_off, zMf_off]
  · simp (disch := omega) only [zU_off, zFr_off, zMf_off]
  · simp (disch := omega) only [zU_off, zFr_off, zMr_off]
  · simp (disch := omega) only [zKr_off, zMk_off]
  · exact (zx_U (zx_F (zx_F (zx_F zx_0 (by omega)) (by omega)) (by omega))) b j h1 h2
  · intro j
    simp (disch := omega) only [zU_a, zFr_off, zMf_off, hI]
    repeat' split
    all_goals first | rfl | (exfalso; simp_all; done)
  · exact (zx_F (zx_F (zx_F zx_0 (by omega)) (by omega)) (by omega)) b j h1 h2
  · simp (disch := omega) only [zU_a, zFr_off, zMf_off, hj]
    try (repeat' split <;> first | rfl | (exfalso; simp_all; done))
set_option maxHeartbeats 4000000 in
theorem fX12 {G : zG} {I : Nat → Nat → Int32} {J : Nat → Nat → Int64} {R : Nat → Nat → Option Nat} {K : Nat → Nat × Nat} {a : Nat} (hz : G.1 ≤ a) (hk : K a = (12, 0)) (hI : ∀ j, I a j = 0) : ∃ I1 J1 R1 K1, ctX12 G I J R K (a + 1) a = (I1, J1, R1, K1, a + 1 + 20) ∧ zFm a I I1 J J1 R R1 K K1 ∧ (sO G K1 (a + 1 + 20) (a) 12 ∧ R1 (a) 1 = some (a + 1) ∧ sA G K1 (a + 1 + 20) (a + 1) 33 240 ∧ R1 (a) 2 = some (a + 2) ∧ sA G K1 (a + 1 + 20) (a + 2) 33 960 ∧ R1 (a) 3 = some (a + 3) ∧ sA G K1 (a + 1 + 20) (a + 3) 32 4 ∧ R1 (a) 4 = some (a + 4) ∧ sA G K1 (a + 1 + 20) (a + 4) 32 128 ∧ R1 (a) 18 = some (a + 5) ∧ sA G K1 (a + 1 + 20) (a + 5) 32 2 ∧ R1 (a) 19 = some (a + 6) ∧ sA G K1 (a + 1 + 20) (a + 6) 32 2 ∧ R1 (a) 20 = some (a + 7) ∧ sA G K1 (a + 1 + 20) (a + 7) 32 12 ∧ R1 (a) 21 = some (a + 8) ∧ sA G K1 (a + 1 + 20) (a + 8) 32 12 ∧ R1 (a) 22 = some (a + 9) ∧ sA G K1 (a + 1 + 20) (a + 9) 32 27 ∧ R1 (a) 23 = some (a + 10) ∧ sA G K1 (a + 1 + 20) (a + 10) 32 27 ∧ R1 (a) 24 = some (a + 11) ∧ sA G K1 (a + 1 + 20) (a + 11) 32 240 ∧ R1 (a) 25 = some (a + 12) ∧ sA G K1 (a + 1 + 20) (a + 12) 32 5 ∧ R1 (a) 32 = some (a + 13) ∧ sA G K1 (a + 1 + 20) (a + 13) 32 231 ∧ R1 (a) 33 = some (a + 14) ∧ sA G K1 (a + 1 + 20) (a + 14) 32 231 ∧ R1 (a) 36 = some (a + 15) ∧ sA G K1 (a + 1 + 20) (a + 15) 35 8191 ∧ R1 (a) 37 = some (a + 16) ∧ sA G K1 (a + 1 + 20) (a + 16) 32 8191 ∧ R1 (a) 38 = some (a + 17) ∧ sA G K1 (a + 1 + 20) (a + 17) 32 9240 ∧ R1 (a) 43 = some (a + 18) ∧ sA G K1 (a + 1 + 20) (a + 18) 32 30 ∧ R1 (a) 45 = some (a + 19) ∧ sA G K1 (a + 1 + 20) (a + 19) 32 6 ∧ R1 (a) 46 = some (a + 20) ∧ sA G K1 (a + 1 + 20) (a + 20) 32 231 ∧ R1 (a) 15 = some (G.2.2.2.1 4) ∧ R1 (a) 16 = some (G.2.2.2.1 3) ∧ R1 (a) 5 = some (a + 1) ∧ sA G K1 (a + 1 + 20) (a + 1) 33 240) ∧ (∀ b j, a < b → b < a + 1 + 20 → I1 b j = 0) ∧ (I1 a 34 = (-1) ∧ I1 a 35 = 4 ∧ (∀ j, j ≠ 34 → j ≠ 35 → I1 a j = 0)) ∧ (∀ b j, a < b → b < a + 1 + 20 → J1 b j = 0) ∧ (∀ j, J a j = 0 → J1 a j = 0) := by
  refine ⟨_, _, _, _, rfl, ⟨fun b hb => ?_, fun b hb => ?_, fun b hb => ?_, fun b hb => ?_⟩, ⟨⟨hz, by omega, by simp (disch := omega) only [zKr_off, zKr_at', zMk_off, zMk_at', zMk_in, hk]⟩, (by simp (disch := omega) [zU_a, zU_off, zFr_off, zFr_at', zMr_off]), ⟨by omega, by omega, by simp (disch := omega) only [zKr_off, zKr_at', zMk_off, zMk_at', zMk_in]⟩, (by simp (disch := omega) [zU_a, zU_off, zFr_off, zFr_at', zMr_off]), ⟨by omega, by omega, by simp (disch := omega) only [zKr_off, zKr_at', zMk_off, zMk_at', zMk_in]⟩, (by simp (disch := omega) [zU_a, zU_off, zFr_off, zFr_at', zMr_off]), ⟨by omega, by omega, by simp (disch := omega) only [zKr_off, zKr_at', zMk_off, zMk_at', zMk_in]⟩, (by simp (disch := omega) [zU_a, zU_off, zFr_off, zFr_at', zMr_off]), ⟨by omega, by omega, by simp (disch := omega) only [zKr_off, zKr_at', zMk_off, zMk_at', zMk_in]⟩, (by simp (disch := omega) [zU_a, zU_off, zFr_off, zFr_at', zMr_off]), ⟨by omega, by omega, by simp (disch := omega) only [zKr_off, zKr_at', zMk_off, zMk_at', zMk_in]⟩, (by simp (disch := omega) [zU_a, zU_off, zFr_off, zFr_at', zMr_off]), ⟨by omega, by omega, by simp (disch := omega) only [zKr_off, zKr_at', zMk_off, zMk_at', zMk_in]⟩, (by simp (disch := omega) [zU_a, zU_off, zFr_off, zFr_at', zMr_off]), ⟨by omega, by omega, by simp (disch := omega) only [zKr_off, zKr_at', zMk_off, zMk_at', zMk_in]⟩, (by simp (disch := omega) [zU_a, zU_off, zFr_off, zFr_at', zMr_off]), ⟨by omega, by omega, by simp (disch := omega) only [zKr_off, zKr_at', zMk_off, zMk_at', zMk_in]⟩, (by simp (disch := omega) [zU_a, zU_off, zFr_off, zFr_at', zMr_off]), ⟨by omega, by omega, by simp (disch := omega) only [zKr_off, zKr_at', zMk_off, zMk_at', zMk_in]⟩, (by simp (disch := omega) [zU_a, zU_off, zFr_off, zFr_at', zMr_off]), ⟨by omega, by omega, by simp (disch := omega) only [zKr_off, zKr_at', zMk_off, zMk_at', zMk_in]⟩, (by simp (disch := omega) [zU_a, zU_off, zFr_off, zFr_at', zMr_off]), ⟨by omega, by omega, by simp (disch := omega) only [zKr_off, zKr_at', zMk_off, zMk_at', zMk_in]⟩, (by simp (disch := omega) [zU_a, zU_off, zFr_off, zFr_at', zMr_off]), ⟨by omega, by omega, by simp (disch := omega) only [zKr_off, zKr_at', zMk_off, zMk_at', zMk_in]⟩, (by simp (disch := omega) [zU_a, zU_off, zFr_off, zFr_at', zMr_off]), ⟨by omega, by omega, by simp (disch := omega) only [zKr_off, zKr_at', zMk_off, zMk_at', zMk_in]⟩, (by simp (disch := omega) [zU_a, zU_off, zFr_off, zFr_at', zMr_off]), ⟨by omega, by omega, by simp (disch := omega) only [zKr_off, zKr_at', zMk_off, zMk_at', zMk_in]⟩, (by simp (disch := omega) [zU_a, zU_off, zFr_off, zFr_at', zMr_off]), ⟨by omega, by omega, by simp (disch := omega) only [zKr_off, zKr_at', zMk_off, zMk_at', zMk_in]⟩, (by simp (disch := omega) [zU_a, zU_off, zFr_off, zFr_at', zMr_off]), ⟨by omega, by omega, by simp (disch := omega) only [zKr_off, zKr_at', zMk_off, zMk_at', zMk_in]⟩, (by simp (disch := omega) [zU_a, zU_off, zFr_off, zFr_at', zMr_off]), ⟨by omega, by omega, by simp (disch := omega) only [zKr_off, zKr_at', zMk_off, zMk_at', zMk_in]⟩, (by simp (disch := omega) [zU_a, zU_off, zFr_off, zFr_at', zMr_off]), ⟨by omega, by omega, by simp (disch := omega) only [zKr_off, zKr_at', zMk_off, zMk_at', zMk_in]⟩, (by simp (disch := omega) [zU_a, zU_off, zFr_off, zFr_at', zMr_off]), ⟨by omega, by omega, by simp (disch := omega) only [zKr_off, zKr_at', zMk_off, zMk_at', zMk_in]⟩, (by simp (disch := omega) [zU_a, zU_off, zFr_off, zFr_at', zMr_off]), ⟨by omega, by omega, by simp (disch := omega) only [zKr_off, zKr_at', zMk_off, zMk_at', zMk_in]⟩, (by simp (disch := omega) [zU_a, zU_off, zFr_off, zFr_at', zMr_off]), (by simp (disch := omega) [zU_a, zU_off, zFr_off, zFr_at', zMr_off]), (by simp (disch := omega) [zU_a, zU_off, zFr_off, zFr_at', zMr_off]), ⟨by omega, by omega, by simp (disch := omega) only [zKr_off, zKr_at', zMk_off, zMk_at', zMk_in]⟩⟩, fun b j h1 h2 => ?_, ?_, fun b j h1 h2 => ?_, fun j hj => ?_⟩
  · simp (disch := omega) only [zU_off, zFr_off, zMf_off]
  · simp (disch := omega) only [zU_off, zFr_off, zMf_off]
  · simp (disch := omega) only [zU_off, zFr_off, zMr_off]
  · simp (disch := omega) only [zKr_off, zMk_off]
  · exact (zx_F (zx_F (zx_F (zx_F (zx_F (zx_F (zx_U (zx_U (zx_F (zx_F (zx_F (zx_F (zx_F (zx_F (zx_F (zx_F (zx_F (zx_F (zx_F (zx_F (zx_F (zx_F zx_0 (by omega)) (by omega)) (by omega)) (by omega)) (by omega)) (by omega)) (by omega)) (by omega)) (by omega)) (by omega)) (by omega)) (by omega)) (by omega)) (by omega)))) (by omega)) (by omega)) (by omega)) (by omega)) (by omega)) (by omega)) b j h1 h2
  · refine ⟨by simp (disch := omega) [zU_a, zFr_off, zMf_off], by simp (disch := omega) [zU_a, zFr_off, zMf_off], fun j _ _ => ?_⟩
    simp (disch := omega) only [zU_a, zFr_off, zMf_off, hI]
    repeat' split
    all_goals first | rfl | (exfalso; simp_all; done)
  · exact (zx_F (zx_F (zx_F (zx_F (zx_F (zx_F (zx_F (zx_F (zx_F (zx_F (zx_F (zx_F (zx_F (zx_F (zx_F (zx_F (zx_F (zx_F (zx_F (zx_F zx_0 (by omega)) (by omega)) (by omega)) (by omega)) (by omega)) (by omega)) (by omega)) (by omega)) (by omega)) (by omega)) (by omega)) (by omega)) (by omega)) (by omega)) (by omega)) (by omega)) (by omega)) (by omega)) (by omega)) (by omega)) b j h1 h2
  · simp (disch := omega) only [zU_a, zFr_off, zMf_off, hj]
    try (repeat' split <;> first | rfl | (exfalso; simp_all; done))
