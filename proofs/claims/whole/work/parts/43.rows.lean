/-! HOW THE CLASS READS A LAW -/
/-- the code read so far -/
def LC (I : Nat → Nat → Int32) (l : Nat) (cs : List Int32) : Nat → Nat → Int32 := fun b k => if b = l ∧ k = 1 then nI cs.length else if b = l + 1 ∧ k < cs.length then cs.getD k 0 else I b k
theorem LC_l {I : Nat → Nat → Int32} {l : Nat} {cs : List Int32} : LC I l cs l 1 = nI cs.length := if_pos ⟨rfl, rfl⟩
theorem LC_ne {I : Nat → Nat → Int32} {l b k : Nat} {cs : List Int32} (h : ¬ (b = l ∧ k = 1)) (h2 : ¬ (b = l + 1 ∧ k < cs.length)) : LC I l cs b k = I b k := (if_neg h).trans (if_neg h2)
theorem LC_off {I : Nat → Nat → Int32} {l b : Nat} {cs : List Int32} (h : b ≠ l) (h2 : b ≠ l + 1) : LC I l cs b = I b := funext fun _ => LC_ne (fun q => h q.1) (fun q => h2 q.1)
theorem LC_c {I : Nat → Nat → Int32} {l k : Nat} {cs : List Int32} (h : k < cs.length) : LC I l cs (l + 1) k = cs.getD k 0 := (if_neg (by omega)).trans (if_pos ⟨rfl, h⟩)
theorem LC_nil {I : Nat → Nat → Int32} {l : Nat} : LC I l [] = zU I l 1 0 := by
  funext b k
  by_cases h : b = l ∧ k = 1
  · obtain ⟨rfl, rfl⟩ := h
    rw [zU_self, LC_l]; rfl
  · rw [zU_ne h, LC_ne h (by simp)]
theorem LC_emit {I : Nat → Nat → Int32} {t l : Nat} {cs : List Int32} {x y : Int32} (h : t + 1 < l) : zU (zU (zU (LC I l cs) t 2 y) (l + 1) cs.length x) l 1 (nI (cs.length + 1)) = zU (LC I l (cs ++ [x])) t 2 y := by
  funext b k
  by_cases h1 : b = l ∧ k = 1
  · obtain ⟨rfl, rfl⟩ := h1
    rw [zU_self, zU_ne (by omega), LC_l, List.length_append]; rfl
  · rw [zU_ne h1]
    by_cases h3 : b = l + 1
    · subst h3
      by_cases h4 : k = cs.length
      · subst h4
        rw [zU_self, zU_ne (by omega), LC_c (by simp), List.getD_eq_getElem?_getD]
        simp
      · rw [zU_ne (by omega), zU_ne (by omega), zU_ne (by omega)]
        by_cases h5 : k < cs.length
        · rw [LC_c h5, LC_c (by simp; omega), List.getD_eq_getElem?_getD, List.getD_eq_getElem?_getD, List.getElem?_append_left h5]
        · rw [LC_ne h1 (by omega), LC_ne h1 (by simp; omega)]
    · rw [zU_ne (by omega)]
      by_cases h6 : b = t ∧ k = 2
      · obtain ⟨rfl, rfl⟩ := h6
        rw [zU_self, zU_self]
      · rw [zU_ne h6, zU_ne h6, LC_ne h1 (by omega), LC_ne h1 (by omega)]
theorem TP.lc {I : Nat → Nat → Int32} {t l ln : Nat} {tx : Nat → Nat} (V : TP I t ln tx) (h : t + 1 < l) (cs : List Int32) : TP (LC I l cs) t ln tx := V.same (by rw [LC_off (by omega) (by omega)]) (by rw [LC_off (by omega) (by omega)])
/-- what is wanted behind a part -/
def PO (Q : Option Value → zH → Prop) (I : Nat → Nat → Int32) (J : Nat → Nat → Int64) (R : Nat → Nat → Option Nat) (K : Nat → Nat × Nat) (n t l : Nat) (cs : List Int32) (a : PR) : Prop :=
  (∀ c, a.2 = some c → Q (some (.int 1)) (zU (LC I l (cs ++ c)) t 2 (nI a.1), J, R, K, n)) ∧ (a.2 = none → ∀ cs', Q (some (.int 0)) (zU (LC I l cs') t 2 (nI a.1), J, R, K, n))
def fr (md e : Nat) : Nat := 5 + 3 * (6 - e) + (if md = 9 then 0 else if md = 3 then 1 else if md = 2 then 2 else if md = 8 then 3 else if md = 10 then 3 else if md = 1 then 4 else if md = 12 then 4 else 5)
section
variable {G : zG} {d : Nat} {I : Nat → Nat → Int32} {J : Nat → Nat → Int64} {R : Nat → Nat → Option Nat} {K : Nat → Nat × Nat} {n : Nat} {t l ln p : Nat} {tx : Nat → Nat} {Q : Option Value → zH → Prop} {cs : List Int32}
theorem PO.sq1 {a : PR} {k : Nat → PR} (h : PO Q I J R K n t l cs (sq a k)) (ha : a.2 = none) (cs' : List Int32) : Q (some (.int 0)) (zU (LC I l cs') t 2 (nI a.1), J, R, K, n) := by
  rw [sq_none1 ha] at h
  exact h.2 rfl cs'
theorem PO.sq2 {a : PR} {k : Nat → PR} {c : List Int32} (h : PO Q I J R K n t l cs (sq a k)) (ha : a.2 = some c) : PO Q I J R K n t l (cs ++ c) (k a.1) := by
  cases hk : (k a.1).2 with
  | none =>
    rw [sq_none2 ha hk] at h
    exact ⟨fun c h2 => (by rw [hk] at h2; cases h2), fun _ => h.2 rfl⟩
  | some c2 =>
    rw [sq_some2 ha hk] at h
    refine ⟨fun c3 h2 => ?_, fun h2 => (by rw [hk] at h2; cases h2)⟩
    rw [hk] at h2
    cases h2
    rw [List.append_assoc]
    exact h.1 _ rfl
theorem c_emit (S : hLrd G R K n l t) (hlt : t + 1 < l) {x y : Int32} (hc : cs.length < 240) (hQ : Q (some (.int 1)) (zU (LC I l (cs ++ [x])) t 2 y, J, R, K, n)) : zC G (d + 1) mX3_emit 0 0 [.ref l, .int x] (zU (LC I l cs) t 2 y, J, R, K, n) Q := by
  refine zC.of (by decide) (Nat.le_of_ble_eq_true rfl) ?_
  refine wX3_emit_0 l t S _ ?_
  have e1 : zU (LC I l cs) t 2 y l 1 = nI cs.length := by rw [zU_off (by omega), LC_l]
  rw [e1, tk_c (by omega)]
  refine ⟨fun _ => ⟨(tk_in (by omega) (by omega)).mpr hc, ?_⟩, fun h => absurd ((tk_lt (by omega) (by omega)).mpr hc) h⟩
  rintro _ rfl _ rfl
  rw [zU_off (by omega), e1, nI_1, LC_emit hlt]
  exact hQ
theorem c_joins {r : Nat} (hr : r ≤ 3) {s : Int32} (hQ : Q (some (.int (if jn r s then 1 else 0))) (I, J, R, K, n)) : zC G (d + 1) mX3_joins 0 0 [.int (nI r), .int s] (I, J, R, K, n) Q := by
  refine zC.of (by decide) (Nat.le_of_ble_eq_true rfl) ?_
  refine wX3_joins_0 _ _ ?_
  obtain rfl | rfl | rfl | rfl : r = 0 ∨ r = 1 ∨ r = 2 ∨ r = 3 := by omega
  · refine ⟨fun _ => ?_, fun h => absurd h (by decide), fun h => absurd h (by decide), fun h => absurd rfl h⟩
    rw [show jn 0 s = decide (s = 124) from rfl] at hQ
    simp only [decide_eq_true_eq] at hQ
    exact hQ
  · refine ⟨fun h => absurd h (by decide), fun _ => ?_, fun h => absurd h (by decide), fun _ h => absurd rfl h⟩
    rw [show jn 1 s = decide (s = 38) from rfl] at hQ
    simp only [decide_eq_true_eq] at hQ
    exact hQ
  · refine ⟨fun h => absurd h (by decide), fun h => absurd h (by decide), fun _ => ?_, fun _ _ h => absurd rfl h⟩
    rw [show jn 2 s = (decide (s = 43) || decide (s = 45)) from rfl] at hQ
    by_cases h1 : s = 43
    · rw [if_pos (by simp [h1])] at hQ
      rw [if_pos h1]; exact hQ
    · rw [if_neg h1]
      by_cases h2 : s = 45
      · rw [if_pos (by simp [h2])] at hQ
        rw [if_pos h2]; exact hQ
      · rw [if_neg (by simp [h1, h2])] at hQ
        rw [if_neg h2]; exact hQ
  · refine ⟨fun h => absurd h (by decide), fun h => absurd h (by decide), fun h => absurd h (by decide), fun _ _ _ => ?_⟩
    rw [show jn 3 s = (decide (s = 42) || decide (s = 47)) from rfl] at hQ
    by_cases h1 : s = 42
    · rw [if_pos (by simp [h1])] at hQ
      rw [if_pos h1]; exact hQ
    · rw [if_neg h1]
      by_cases h2 : s = 47
      · rw [if_pos (by simp [h2])] at hQ
        rw [if_pos h2]; exact hQ
      · rw [if_neg (by simp [h1, h2])] at hQ
        rw [if_neg h2]; exact hQ
theorem c_cmps {s : Int32} (hQ : Q (some (.int (if isS s then 1 else 0))) (I, J, R, K, n)) : zC G (d + 1) mX3_compares 0 0 [.int s] (I, J, R, K, n) Q := by
  refine zC.of (by decide) (Nat.le_of_ble_eq_true rfl) ?_
  refine wX3_compares_0 _ ?_
  unfold isS at hQ
  by_cases h1 : s = 61
  · rw [if_pos (by simp [h1])] at hQ; rw [if_pos h1]; exact hQ
  · rw [if_neg h1]
    by_cases h2 : s = 60
    · rw [if_pos (by simp [h2])] at hQ; rw [if_pos h2]; exact hQ
    · rw [if_neg h2]
      by_cases h3 : s = 62
      · rw [if_pos (by simp [h3])] at hQ; rw [if_pos h3]; exact hQ
      · rw [if_neg (by simp [h1, h2, h3])] at hQ; rw [if_neg h3]; exact hQ
/-- behind a part of a row: the sign that joins another one to it -/
theorem row_next (S : hLrd G R K n l t) (hlt : t + 1 < l) (V : TP I t ln tx) {r e q i f2 : Nat} {b3 : Int32} (hr : r ≤ 3) (hq : q ≤ ln) (hi : i + 1 ≤ q) (hc : cs.length ≤ q) (hf : 8 * (ln - q) + 1 ≤ f2)
    (hL : ∀ (f' p' i' : Nat) (cs' : List Int32) (s' : Int32), f2 = f' + 1 → p' ≤ ln → cs'.length + 1 ≤ p' → 1 ≤ i' → i' + 1 ≤ p' → 8 * (ln - p') + cm (elm r) ≤ f' → PO Q I J R K n t l cs' (sq (sq (pz tx ln f' (elm r) e p') (em (-s'))) (fun q => pz tx ln f' (r + 4) e q)) → zV G (d + 3) mX3_readRow 0 0 6 [(0, .ref l), (1, .int (nI r)), (2, .int (nI e)), (3, .int b3), (4, .int s'), (5, .int (nI i'))] [] (zU (LC I l cs') t 2 (nI p'), J, R, K, n) Q)
    (hP : PO Q I J R K n t l cs (pz tx ln f2 (r + 4) e q)) :
    zC G (d + 2) mX9_next 0 0 [.ref t] (zU (LC I l cs) t 2 (nI q), J, R, K, n) (fun r' h' => ∃ (x9 : Int32) (I10 : Nat → Nat → Int32), r' = some (.int x9) ∧ h' = (I10, J, R, K, n) ∧ zC G (d + 2) mX3_joins 0 0 [.int (nI r), .int x9] (I10, J, R, K, n) (fun r' h' => ∃ (x11 : Int32) (I12 : Nat → Nat → Int32), r' = some (.int x11) ∧ h' = (I12, J, R, K, n) ∧ ((x11 = 0 → Q (some (.int 1)) (I12, J, R, K, n)) ∧ (¬ (x11 = 0) → (∀ I14 : Nat → Nat → Int32, I14 = zU I12 t 2 ((I12 t 2) + 1) → zV G (d + 3) mX3_readRow 0 0 6 [(0, .ref l), (1, .int (nI r)), (2, .int (nI e)), (3, .int b3), (4, .int x9), (5, .int (nI i + 1))] [] (I14, J, R, K, n) Q))))) := by
  obtain ⟨f', rfl⟩ : ∃ f', f2 = f' + 1 := ⟨f2 - 1, by omega⟩
  have g1 := sk_ge (tx := tx) (ln := ln) (p := q)
  have g2 := sk_le (tx := tx) hq
  rw [pz, if_neg (by omega), if_pos (by omega), show r + 4 - 4 = r by omega] at hP
  refine c_next (Lrd_4 S) (V.lc hlt cs) hq ?_
  refine ⟨_, _, rfl, rfl, ?_⟩
  refine c_joins hr ?_
  refine ⟨_, _, rfl, rfl, ?_⟩
  by_cases hj : jn r (lk tx ln q) = true
  · rw [if_pos hj] at hP ⊢
    have hl := lk_lt (jn_ne hj)
    refine ⟨fun h => absurd h (by decide), fun _ => ?_⟩
    rintro _ rfl
    rw [zU_two, zU_self, nI_1, nI_1]
    refine hL f' (sk tx ln q + 1) (i + 1) cs _ rfl (by omega) (by omega) (by omega) (by omega) ?_ hP
    have : cm (elm r) ≤ 5 := by unfold cm elm; repeat' split
                                all_goals omega
    omega
  · rw [if_neg hj] at hP ⊢
    refine ⟨fun _ => ?_, fun h => absurd rfl h⟩
    have := hP.1 [] rfl
    rw [List.append_nil] at this
    exact this
theorem row6 (S : hLrd G R K n l t) (hlt : t + 1 < l) (V : TP I t ln tx) {r e i f2 : Nat} {b3 s flag : Int32} {res : PR} (hr : r ≤ 3) (hi : i < 240) (hip : i ≤ p) (hp : p ≤ ln) (hcs : cs.length + (if i = 0 then 0 else 1) ≤ p)
    (hfl : (if b3 = 0 then (0 : Int32) else (if nI i = 0 then 1 else 0)) = flag)
    (h0 : r = 0 → ∀ Q', PO Q' I J R K n t l cs res → zC G (d + 2) mX3_readRow 0 0 [.ref l, .int 1, .int (nI e), .int flag] (zU (LC I l cs) t 2 (nI p), J, R, K, n) Q')
    (h1 : r = 1 → ∀ Q', PO Q' I J R K n t l cs res → zC G (d + 2) mX3_readUnit 0 0 [.ref l, .int (nI e), .int flag] (zU (LC I l cs) t 2 (nI p), J, R, K, n) Q')
    (h2 : r = 2 → ∀ Q', PO Q' I J R K n t l cs res → zC G (d + 2) mX3_readRow 0 0 [.ref l, .int 3, .int (nI e), .int 0] (zU (LC I l cs) t 2 (nI p), J, R, K, n) Q')
    (h3 : r = 3 → ∀ Q', PO Q' I J R K n t l cs res → zC G (d + 2) mX3_readAtom 0 0 [.ref l, .int (nI e)] (zU (LC I l cs) t 2 (nI p), J, R, K, n) Q')
    (hpos : ∀ c, res.2 = some c → p + c.length ≤ res.1 ∧ res.1 ≤ ln ∧ p + 1 ≤ res.1 ∧ 8 * (ln - res.1) + 1 ≤ f2)
    (hL : ∀ (f' p' i' : Nat) (cs' : List Int32) (s' : Int32), f2 = f' + 1 → p' ≤ ln → cs'.length + 1 ≤ p' → 1 ≤ i' → i' + 1 ≤ p' → 8 * (ln - p') + cm (elm r) ≤ f' → PO Q I J R K n t l cs' (sq (sq (pz tx ln f' (elm r) e p') (em (-s'))) (fun q => pz tx ln f' (r + 4) e q)) → zV G (d + 3) mX3_readRow 0 0 6 [(0, .ref l), (1, .int (nI r)), (2, .int (nI e)), (3, .int b3), (4, .int s'), (5, .int (nI i'))] [] (zU (LC I l cs') t 2 (nI p'), J, R, K, n) Q)
    (hP0 : i = 0 → PO Q I J R K n t l cs (sq res (fun q => pz tx ln f2 (r + 4) e q))) (hP1 : i ≠ 0 → PO Q I J R K n t l cs (sq (sq res (em (-s))) (fun q => pz tx ln f2 (r + 4) e q))) :
    zV G (d + 3) mX3_readRow 0 0 6 [(0, .ref l), (1, .int (nI r)), (2, .int (nI e)), (3, .int b3), (4, .int s), (5, .int (nI i))] [] (zU (LC I l cs) t 2 (nI p), J, R, K, n) Q := by
  have hl := V.1
  have hno : res.2 = none → ∀ cs', Q (some (.int 0)) (zU (LC I l cs') t 2 (nI res.1), J, R, K, n) := by
    intro hn cs'
    by_cases hz : i = 0
    · exact (hP0 hz).sq1 hn cs'
    · have h5 := hP1 hz
      have h6 := h5.sq1 (a := sq res (em (-s))) (by rw [sq_none1 hn]) cs'
      rw [sq_none1 hn] at h6
      exact h6
  have hyes : ∀ c, res.2 = some c → i = 0 → PO Q I J R K n t l (cs ++ c) (pz tx ln f2 (r + 4) e res.1) := fun c hc hz => (hP0 hz).sq2 hc
  have hyes1 : ∀ c, res.2 = some c → i ≠ 0 → PO Q I J R K n t l ((cs ++ c) ++ [-s]) (pz tx ln f2 (r + 4) e res.1) := by
    intro c hc hz
    have h5 := hP1 hz
    have e1 : sq res (em (-s)) = (res.1, some (c ++ [-s])) := sq_some2 hc rfl
    rw [e1] at h5
    have h6 := h5.sq2 (c := c ++ [-s]) rfl
    rw [List.append_assoc]
    exact h6
  refine wX3_readRow_6 l t S _ _ _ _ _ ⟨fun h => ?_, fun _ => ?_⟩
  · rw [show (240 : Int32) = nI 240 from rfl, tk_le (by omega) (by omega)] at h
    omega
  · rw [hfl]
    refine ⟨fun h => ?_, fun h => ?_, fun h => ?_, fun g0 g1 g2 => ?_⟩
    · obtain rfl : r = 0 := (tk_eq (b := 0) (by omega) (by omega)).mp h
      refine h0 rfl _ ⟨fun c hc => ⟨_, _, rfl, rfl, fun h => absurd h (by decide), fun _ => ?_⟩, fun hn cs' => ⟨_, _, rfl, rfl, fun _ => hno hn cs', fun h => absurd rfl h⟩⟩
      obtain ⟨b1, b2, b3', b4⟩ := hpos c hc
      refine ⟨fun hz => ?_, fun hz => ?_⟩
      · have hz' : i = 0 := by
          rw [show (0 : Int32) = nI 0 from rfl, tk_le (by omega) (by omega)] at hz
          omega
        rw [if_pos hz'] at hcs
        exact row_next S hlt V (by omega) b2 (by omega) (by simp; omega) b4 hL (hyes c hc hz')
      · have hz' : i ≠ 0 := fun h => hz (by rw [h]; decide)
        rw [if_neg hz'] at hcs
        refine c_emit S hlt (by simp; omega) ?_
        refine ⟨_, _, rfl, rfl, ?_⟩
        refine ⟨fun h => absurd h (by decide), fun _ => ?_⟩
        exact row_next S hlt V (by omega) b2 (by omega) (by simp; omega) b4 hL (hyes1 c hc hz')
    · obtain rfl : r = 1 := (tk_eq (b := 1) (by omega) (by omega)).mp h
      refine h1 rfl _ ⟨fun c hc => ⟨_, _, rfl, rfl, fun h => absurd h (by decide), fun _ => ?_⟩, fun hn cs' => ⟨_, _, rfl, rfl, fun _ => hno hn cs', fun h => absurd rfl h⟩⟩
      obtain ⟨b1, b2, b3', b4⟩ := hpos c hc
      refine ⟨fun hz => ?_, fun hz => ?_⟩
      · have hz' : i = 0 := by
          rw [show (0 : Int32) = nI 0 from rfl, tk_le (by omega) (by omega)] at hz
          omega
        rw [if_pos hz'] at hcs
        exact row_next S hlt V (by omega) b2 (by omega) (by simp; omega) b4 hL (hyes c hc hz')
      · have hz' : i ≠ 0 := fun h => hz (by rw [h]; decide)
        rw [if_neg hz'] at hcs
        refine c_emit S hlt (by simp; omega) ?_
        refine ⟨_, _, rfl, rfl, ?_⟩
        refine ⟨fun h => absurd h (by decide), fun _ => ?_⟩
        exact row_next S hlt V (by omega) b2 (by omega) (by simp; omega) b4 hL (hyes1 c hc hz')
    · obtain rfl : r = 2 := (tk_eq (b := 2) (by omega) (by omega)).mp h
      refine h2 rfl _ ⟨fun c hc => ⟨_, _, rfl, rfl, fun h => absurd h (by decide), fun _ => ?_⟩, fun hn cs' => ⟨_, _, rfl, rfl, fun _ => hno hn cs', fun h => absurd rfl h⟩⟩
      obtain ⟨b1, b2, b3', b4⟩ := hpos c hc
      refine ⟨fun hz => ?_, fun hz => ?_⟩
      · have hz' : i = 0 := by
          rw [show (0 : Int32) = nI 0 from rfl, tk_le (by omega) (by omega)] at hz
          omega
        rw [if_pos hz'] at hcs
        exact row_next S hlt V (by omega) b2 (by omega) (by simp; omega) b4 hL (hyes c hc hz')
      · have hz' : i ≠ 0 := fun h => hz (by rw [h]; decide)
        rw [if_neg hz'] at hcs
        refine c_emit S hlt (by simp; omega) ?_
        refine ⟨_, _, rfl, rfl, ?_⟩
        refine ⟨fun h => absurd h (by decide), fun _ => ?_⟩
        exact row_next S hlt V (by omega) b2 (by omega) (by simp; omega) b4 hL (hyes1 c hc hz')
    · obtain rfl : r = 3 := by
        have e0 : r ≠ 0 := fun h => g0 (by rw [h]; rfl)
        have e1 : r ≠ 1 := fun h => g1 (by rw [h]; rfl)
        have e2 : r ≠ 2 := fun h => g2 (by rw [h]; rfl)
        omega
      refine h3 rfl _ ⟨fun c hc => ⟨_, _, rfl, rfl, fun h => absurd h (by decide), fun _ => ?_⟩, fun hn cs' => ⟨_, _, rfl, rfl, fun _ => hno hn cs', fun h => absurd rfl h⟩⟩
      obtain ⟨b1, b2, b3', b4⟩ := hpos c hc
      refine ⟨fun hz => ?_, fun hz => ?_⟩
      · have hz' : i = 0 := by
          rw [show (0 : Int32) = nI 0 from rfl, tk_le (by omega) (by omega)] at hz
          omega
        rw [if_pos hz'] at hcs
        exact row_next S hlt V (by omega) b2 (by omega) (by simp; omega) b4 hL (hyes c hc hz')
      · have hz' : i ≠ 0 := fun h => hz (by rw [h]; decide)
        rw [if_neg hz'] at hcs
        refine c_emit S hlt (by simp; omega) ?_
        refine ⟨_, _, rfl, rfl, ?_⟩
        refine ⟨fun h => absurd h (by decide), fun _ => ?_⟩
        exact row_next S hlt V (by omega) b2 (by omega) (by simp; omega) b4 hL (hyes1 c hc hz')
end
