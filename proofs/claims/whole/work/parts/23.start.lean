theorem zws_RX10_77 : Cond.stringRef RX10 77 "lc" ∈ lw_tbl := zT2 _ (List.mem_of_getElem? (i := 225) rfl)
theorem zws_RX10_86 : Cond.stringRef RX10 86 "yg" ∈ lw_tbl := zT3 _ (List.mem_of_getElem? (i := 92) rfl)
theorem zws_RX10_91 : Cond.stringRef RX10 91 "avk" ∈ lw_tbl := zT3 _ (List.mem_of_getElem? (i := 99) rfl)
theorem zws_RX3_63 : Cond.stringRef RX3 63 "kgnbld" ∈ lw_tbl := zT3 _ (List.mem_of_getElem? (i := 143) rfl)
theorem zws_RX12_26 : Cond.stringRef RX12 26 "y" ∈ lw_tbl := zT6 _ (List.mem_of_getElem? (i := 30) rfl)
theorem zws_RX12_32 : Cond.stringRef RX12 32 "kgnbld" ∈ lw_tbl := zT6 _ (List.mem_of_getElem? (i := 31) rfl)
theorem zws_RX12_248 : Cond.stringRef RX12 248 "lc" ∈ lw_tbl := zT6 _ (List.mem_of_getElem? (i := 228) rfl)
theorem zws_RX12_254 : Cond.stringRef RX12 254 "yg" ∈ lw_tbl := zT7 _ (List.mem_of_getElem? (i := 38) rfl)
theorem zws_RX12_256 : Cond.stringRef RX12 256 "avk" ∈ lw_tbl := zT7 _ (List.mem_of_getElem? (i := 39) rfl)
theorem zws_RX12_264 : Cond.stringRef RX12 264 "fpin" ∈ lw_tbl := zT7 _ (List.mem_of_getElem? (i := 113) rfl)
theorem zls_RULE_BOUNDS : Cond.laysStatic RX10 "RULE_BOUNDS" "[I" ∈ lw_tbl := zT2 _ (List.mem_of_getElem? (i := 227) rfl)
theorem zls_FARM_BOUNDS : Cond.laysStatic RX10 "FARM_BOUNDS" "[I" ∈ lw_tbl := zT3 _ (List.mem_of_getElem? (i := 94) rfl)
theorem zls_WRONG_BOUNDS : Cond.laysStatic RX10 "WRONG_BOUNDS" "[I" ∈ lw_tbl := zT3 _ (List.mem_of_getElem? (i := 101) rfl)
theorem zls_C : Cond.laysStatic "java/lang/String" "COMPACT_STRINGS" "Z" ∈ lw_tbl := zT3 _ (List.mem_of_getElem? (i := 1) rfl)
theorem zls_F : Cond.laysStatic "jdk/internal/util/Preconditions" "SIOOBE_FORMATTER" "Ljava/util/function/BiFunction;" ∈ lw_tbl := zT3 _ (List.mem_of_getElem? (i := 49) rfl)
theorem zls_U : Cond.laysStatic Bundle.tN "UNASSIGNED_STACK" Bundle.steD ∈ lw_tbl := zT5 _ (List.mem_of_getElem? (i := 230) rfl)
theorem zls_N : Cond.laysStatic Bundle.tN "SUPPRESSED_SENTINEL" Bundle.listD ∈ lw_tbl := zT5 _ (List.mem_of_getElem? (i := 232) rfl)
theorem zin_T : Cond.initialized Bundle.tN ∈ lw_tbl := zT1 _ (List.mem_of_getElem? (i := 22) rfl)
theorem zin_S : Cond.initialized "java/lang/String" ∈ lw_tbl := zT1 _ (List.mem_of_getElem? (i := 13) rfl)
theorem zin_P : Cond.initialized "jdk/internal/util/Preconditions" ∈ lw_tbl := zT1 _ (List.mem_of_getElem? (i := 17) rfl)
theorem zao_L : Cond.arrayOver (.object RX2) ∈ lw_tbl := zT2 _ (List.mem_of_getElem? (i := 101) rfl)
theorem zao_S : Cond.arrayOver (.object RX7) ∈ lw_tbl := zT2 _ (List.mem_of_getElem? (i := 103) rfl)
theorem zao_A : Cond.arrayOver (.array .int) ∈ lw_tbl := zT1 _ (List.mem_of_getElem? (i := 207) rfl)
theorem zNest_in : ∀ w ∈ zNest, w ∈ lw_tbl ∧ w.onTables = true := by
  intro w hw
  unfold zNest at hw
  obtain ⟨h1, h2⟩ := List.mem_filter.mp hw
  refine ⟨h1, ?_⟩
  cases w <;> first | rfl | (cases h2)
theorem zPrim {s : State} {ty : FieldType} {args : Array Value} (h : (Cond.arrayClass ty).before args s = true) (hp : va_RA s = va_RA s) (hobj : ∀ C, ty ≠ .object C) : ∃ c : ClassId, ArrOfT s c ty ∧ va_RA s c ty := by
  obtain ⟨c, k, comp, h1, h2, h3⟩ := Cond.arrayClass_spec h
  refine ⟨c, fun n z => ⟨(fun k h => by cases h), k, h2, comp, h3⟩, ?_⟩
  cases ty with
  | object C => exact absurd rfl (hobj C)
  | _ => exact h1
theorem zObjA {s : State} {C : String} {args : Array Value} (h : (Cond.arrayOver (.object C)).before args s = true) : ∃ c : ClassId, ArrOfT s c (.object C) ∧ va_RA s c (.object C) := by
  obtain ⟨comp, c, k, h1, h2, h3, h4, h5⟩ := Cond.arrayOver_spec h
  exact ⟨c, fun n z => ⟨(fun k h => by cases h), k, h3, comp, h4⟩, k, comp, h3, h4, h1, h5⟩
theorem zArrA {s : State} {args : Array Value} (h : (Cond.arrayOver (.array .int)).before args s = true) : ∃ c : ClassId, ArrOfT s c (.array .int) ∧ va_RA s c (.array .int) := by
  obtain ⟨w, c, k, -, -, w1, w2, w3⟩ := arrayOverA_spec h
  exact ⟨c, fun n z => ⟨(fun _ h => by cases h), k, w1, w, w2⟩, w3⟩
def zTm : Nat → Term := fun i => match i with | 0 => Term.string RX10 77 | 1 => Term.string RX10 86 | 2 => Term.string RX10 91 | 3 => Term.string RX3 63 | 4 => Term.string RX12 26 | _ => Term.string RX12 264
set_option maxHeartbeats 8000000 in
set_option maxRecDepth 100000 in
theorem zStrs {s : State} {b : Nat} {A : Nat → Prop} (hgv : (Jvm.Cond.and given_1 narrow_1).before #[Value.ref b] s = true) (hA : ∀ a : Nat, a < s.heap.size → ¬ A a) : ∃ adK adV : Nat → Nat, vk_S 6 zStrN zStrB adK adV A s s.heap ∧ ∀ i : Nat, i < 6 → (zTm i).eval #[Value.ref b] s none [] s = some (.ref (adK i)) := by
  have hs := flat_of_before _ hgv
  refine vk_Sof (N := 6) (tm := zTm) (len := zStrN) (byt := zStrB) ?_ ?_ ?_ ?_ ?_ ?_ ?_ hA
  · intro i hi
    exact match i, hi with | 0, _ => (by decide) | 1, _ => (by decide) | 2, _ => (by decide) | 3, _ => (by decide) | 4, _ => (by decide) | 5, _ => (by decide) | _ + 6, hi => absurd hi (by omega)
  · intro i hi
    exact match i, hi with | 0, _ => hs _ (by decide +kernel) | 1, _ => hs _ (by decide +kernel) | 2, _ => hs _ (by decide +kernel) | 3, _ => hs _ (by decide +kernel) | 4, _ => hs _ (by decide +kernel) | 5, _ => hs _ (by decide +kernel) | _ + 6, hi => absurd hi (by omega)
  · intro i hi
    exact match i, hi with | 0, _ => hs _ (by decide +kernel) | 1, _ => hs _ (by decide +kernel) | 2, _ => hs _ (by decide +kernel) | 3, _ => hs _ (by decide +kernel) | 4, _ => hs _ (by decide +kernel) | 5, _ => hs _ (by decide +kernel) | _ + 6, hi => absurd hi (by omega)
  · intro i hi
    exact match i, hi with | 0, _ => hs _ (by decide +kernel) | 1, _ => hs _ (by decide +kernel) | 2, _ => hs _ (by decide +kernel) | 3, _ => hs _ (by decide +kernel) | 4, _ => hs _ (by decide +kernel) | 5, _ => hs _ (by decide +kernel) | _ + 6, hi => absurd hi (by omega)
  · intro i hi
    exact match i, hi with | 0, _ => hs _ (by decide +kernel) | 1, _ => hs _ (by decide +kernel) | 2, _ => hs _ (by decide +kernel) | 3, _ => hs _ (by decide +kernel) | 4, _ => hs _ (by decide +kernel) | 5, _ => hs _ (by decide +kernel) | _ + 6, hi => absurd hi (by omega)
  · intro i hi j hj
    exact match i, hi with | 0, _ => (match j, hj with | 0, _ => hs _ (by decide +kernel) | 1, _ => hs _ (by decide +kernel) | _ + 2, hj => absurd hj (by show ¬ _ + 2 < 2; omega)) | 1, _ => (match j, hj with | 0, _ => hs _ (by decide +kernel) | 1, _ => hs _ (by decide +kernel) | _ + 2, hj => absurd hj (by show ¬ _ + 2 < 2; omega)) | 2, _ => (match j, hj with | 0, _ => hs _ (by decide +kernel) | 1, _ => hs _ (by decide +kernel) | 2, _ => hs _ (by decide +kernel) | _ + 3, hj => absurd hj (by show ¬ _ + 3 < 3; omega)) | 3, _ => (match j, hj with | 0, _ => hs _ (by decide +kernel) | 1, _ => hs _ (by decide +kernel) | 2, _ => hs _ (by decide +kernel) | 3, _ => hs _ (by decide +kernel) | 4, _ => hs _ (by decide +kernel) | 5, _ => hs _ (by decide +kernel) | _ + 6, hj => absurd hj (by show ¬ _ + 6 < 6; omega)) | 4, _ => (match j, hj with | 0, _ => hs _ (by decide +kernel) | _ + 1, hj => absurd hj (by show ¬ _ + 1 < 1; omega)) | 5, _ => (match j, hj with | 0, _ => hs _ (by decide +kernel) | 1, _ => hs _ (by decide +kernel) | 2, _ => hs _ (by decide +kernel) | 3, _ => hs _ (by decide +kernel) | _ + 4, hj => absurd hj (by show ¬ _ + 4 < 4; omega)) | _ + 6, hi => absurd hi (by omega)
  · intro i j hi hj hij
    exact match i, hi with | 0, _ => (match j, hj, hij with | 0, _, hij => absurd rfl hij | 1, _, _ => Or.inl (hs _ (by decide +kernel)) | 2, _, _ => Or.inl (hs _ (by decide +kernel)) | 3, _, _ => Or.inl (hs _ (by decide +kernel)) | 4, _, _ => Or.inl (hs _ (by decide +kernel)) | 5, _, _ => Or.inl (hs _ (by decide +kernel)) | _ + 6, hj, _ => absurd hj (by omega)) | 1, _ => (match j, hj, hij with | 0, _, _ => Or.inr (hs _ (by decide +kernel)) | 1, _, hij => absurd rfl hij | 2, _, _ => Or.inl (hs _ (by decide +kernel)) | 3, _, _ => Or.inl (hs _ (by decide +kernel)) | 4, _, _ => Or.inl (hs _ (by decide +kernel)) | 5, _, _ => Or.inl (hs _ (by decide +kernel)) | _ + 6, hj, _ => absurd hj (by omega)) | 2, _ => (match j, hj, hij with | 0, _, _ => Or.inr (hs _ (by decide +kernel)) | 1, _, _ => Or.inr (hs _ (by decide +kernel)) | 2, _, hij => absurd rfl hij | 3, _, _ => Or.inl (hs _ (by decide +kernel)) | 4, _, _ => Or.inl (hs _ (by decide +kernel)) | 5, _, _ => Or.inl (hs _ (by decide +kernel)) | _ + 6, hj, _ => absurd hj (by omega)) | 3, _ => (match j, hj, hij with | 0, _, _ => Or.inr (hs _ (by decide +kernel)) | 1, _, _ => Or.inr (hs _ (by decide +kernel)) | 2, _, _ => Or.inr (hs _ (by decide +kernel)) | 3, _, hij => absurd rfl hij | 4, _, _ => Or.inl (hs _ (by decide +kernel)) | 5, _, _ => Or.inl (hs _ (by decide +kernel)) | _ + 6, hj, _ => absurd hj (by omega)) | 4, _ => (match j, hj, hij with | 0, _, _ => Or.inr (hs _ (by decide +kernel)) | 1, _, _ => Or.inr (hs _ (by decide +kernel)) | 2, _, _ => Or.inr (hs _ (by decide +kernel)) | 3, _, _ => Or.inr (hs _ (by decide +kernel)) | 4, _, hij => absurd rfl hij | 5, _, _ => Or.inl (hs _ (by decide +kernel)) | _ + 6, hj, _ => absurd hj (by omega)) | 5, _ => (match j, hj, hij with | 0, _, _ => Or.inr (hs _ (by decide +kernel)) | 1, _, _ => Or.inr (hs _ (by decide +kernel)) | 2, _, _ => Or.inr (hs _ (by decide +kernel)) | 3, _, _ => Or.inr (hs _ (by decide +kernel)) | 4, _, _ => Or.inr (hs _ (by decide +kernel)) | 5, _, hij => absurd rfl hij | _ + 6, hj, _ => absurd hj (by omega)) | _ + 6, hi => absurd hi (by omega)
set_option maxHeartbeats 8000000 in
set_option maxRecDepth 100000 in
theorem zTab0 {s : State} {b : Nat} {A : Nat → Prop} (hts : ∀ w ∈ lw_tbl, w.before #[Value.ref b] s = true) (hgv : (Jvm.Cond.and given_1 narrow_1).before #[Value.ref b] s = true) (hA : ∀ a : Nat, a < s.heap.size → ¬ A a) : ∃ t : Nat, va_Z RX10 "RULE_BOUNDS" "[I" (.ref t) A s s.heap ∧ va_T .int t 4 (fun j => .int ((zTbl 0).getD j 0)) A s s.heap := by
  have hs := flat_of_before _ hgv
  obtain ⟨t, h1, h2⟩ := va_Tof (args := #[Value.ref b]) (tm := .static RX10 "RULE_BOUNDS" "[I") (ty := .int) (N := 4) (f := fun j => .int ((zTbl 0).getD j 0)) (A := A) (by decide) (hs _ (by decide +kernel)) (va_eqt (hs _ (by decide +kernel))) (fun j hj => match j, hj with | 0, _ => va_eqt (hs _ (by decide +kernel)) | 1, _ => va_eqt (hs _ (by decide +kernel)) | 2, _ => va_eqt (hs _ (by decide +kernel)) | 3, _ => va_eqt (hs _ (by decide +kernel)) | _ + 4, hj => absurd hj (by omega)) hA
  exact ⟨t, va_Zref (hts _ zls_RULE_BOUNDS) (hts _ ini10) h1 hA, h2⟩
set_option maxHeartbeats 8000000 in
set_option maxRecDepth 100000 in
theorem zTab1 {s : State} {b : Nat} {A : Nat → Prop} (hts : ∀ w ∈ lw_tbl, w.before #[Value.ref b] s = true) (hgv : (Jvm.Cond.and given_1 narrow_1).before #[Value.ref b] s = true) (hA : ∀ a : Nat, a < s.heap.size → ¬ A a) : ∃ t : Nat, va_Z RX10 "FARM_BOUNDS" "[I" (.ref t) A s s.heap ∧ va_T .int t 4 (fun j => .int ((zTbl 1).getD j 0)) A s s.heap := by
  have hs := flat_of_before _ hgv
  obtain ⟨t, h1, h2⟩ := va_Tof (args := #[Value.ref b]) (tm := .static RX10 "FARM_BOUNDS" "[I") (ty := .int) (N := 4) (f := fun j => .int ((zTbl 1).getD j 0)) (A := A) (by decide) (hs _ (by decide +kernel)) (va_eqt (hs _ (by decide +kernel))) (fun j hj => match j, hj with | 0, _ => va_eqt (hs _ (by decide +kernel)) | 1, _ => va_eqt (hs _ (by decide +kernel)) | 2, _ => va_eqt (hs _ (by decide +kernel)) | 3, _ => va_eqt (hs _ (by decide +kernel)) | _ + 4, hj => absurd hj (by omega)) hA
  exact ⟨t, va_Zref (hts _ zls_FARM_BOUNDS) (hts _ ini10) h1 hA, h2⟩
set_option maxHeartbeats 8000000 in
set_option maxRecDepth 100000 in
theorem zTab2 {s : State} {b : Nat} {A : Nat → Prop} (hts : ∀ w ∈ lw_tbl, w.before #[Value.ref b] s = true) (hgv : (Jvm.Cond.and given_1 narrow_1).before #[Value.ref b] s = true) (hA : ∀ a : Nat, a < s.heap.size → ¬ A a) : ∃ t : Nat, va_Z RX10 "WRONG_BOUNDS" "[I" (.ref t) A s s.heap ∧ va_T .int t 6 (fun j => .int ((zTbl 2).getD j 0)) A s s.heap := by
  have hs := flat_of_before _ hgv
  obtain ⟨t, h1, h2⟩ := va_Tof (args := #[Value.ref b]) (tm := .static RX10 "WRONG_BOUNDS" "[I") (ty := .int) (N := 6) (f := fun j => .int ((zTbl 2).getD j 0)) (A := A) (by decide) (hs _ (by decide +kernel)) (va_eqt (hs _ (by decide +kernel))) (fun j hj => match j, hj with | 0, _ => va_eqt (hs _ (by decide +kernel)) | 1, _ => va_eqt (hs _ (by decide +kernel)) | 2, _ => va_eqt (hs _ (by decide +kernel)) | 3, _ => va_eqt (hs _ (by decide +kernel)) | 4, _ => va_eqt (hs _ (by decide +kernel)) | 5, _ => va_eqt (hs _ (by decide +kernel)) | _ + 6, hj => absurd hj (by omega)) hA
  exact ⟨t, va_Zref (hts _ zls_WRONG_BOUNDS) (hts _ ini10) h1 hA, h2⟩
set_option maxHeartbeats 8000000 in
set_option maxRecDepth 100000 in
theorem zStart {s : State} {b L : Nat} {xs : Nat → Int32} (hts : ∀ w ∈ lw_tbl, w.before #[Value.ref b] s = true) (hX : va_X b L xs s s.heap) (hbl : b < s.heap.size) (hgv : (Jvm.Cond.and given_1 narrow_1).before #[Value.ref b] s = true) : ∃ G : zG, G.1 = s.heap.size ∧ G.2.2.2.2.2.1 3 = b ∧ G.2.2.2.2.2.2.1 = L ∧ G.2.2.2.2.2.2.2 = xs ∧ zSt G s := by
  have hs := flat_of_before _ hgv
  have hA : ∀ a : Nat, a < s.heap.size → ¬ (fun q => s.heap.size ≤ q) a := fun a h1 h2 => absurd h1 (Nat.not_lt.mpr h2)
  obtain ⟨c0, i0, k0⟩ := u_known (args := #[Value.ref b]) (fun w hw => hts w (zcls0.2.2.1 w hw).1) (fun _ h => h) (hts _ it0)
  obtain ⟨c1, i1, k1⟩ := u_known (args := #[Value.ref b]) (fun w hw => hts w (zcls1.2.2.1 w hw).1) (fun _ h => h) (hts _ it1)
  obtain ⟨c2, i2, k2⟩ := u_known (args := #[Value.ref b]) (fun w hw => hts w (zcls2.2.2.1 w hw).1) (fun _ h => h) (hts _ it2)
  obtain ⟨c3, i3, k3⟩ := u_known (args := #[Value.ref b]) (fun w hw => hts w (zcls3.2.2.1 w hw).1) (fun _ h => h) (hts _ it3)
  obtain ⟨c4, i4, k4⟩ := u_known (args := #[Value.ref b]) (fun w hw => hts w (zcls4.2.2.1 w hw).1) (fun _ h => h) (hts _ it4)
  obtain ⟨c5, i5, k5⟩ := u_known (args := #[Value.ref b]) (fun w hw => hts w (zcls5.2.2.1 w hw).1) (fun _ h => h) (hts _ it5)
  obtain ⟨c6, i6, k6⟩ := u_known (args := #[Value.ref b]) (fun w hw => hts w (zcls6.2.2.1 w hw).1) (fun _ h => h) (hts _ it6)
  obtain ⟨c7, i7, k7⟩ := u_known (args := #[Value.ref b]) (fun w hw => hts w (zcls7.2.2.1 w hw).1) (fun _ h => h) (hts _ it7)
  obtain ⟨c8, i8, k8⟩ := u_known (args := #[Value.ref b]) (fun w hw => hts w (zcls8.2.2.1 w hw).1) (fun _ h => h) (hts _ it8)
  obtain ⟨c9, i9, k9⟩ := u_known (args := #[Value.ref b]) (fun w hw => hts w (zcls9.2.2.1 w hw).1) (fun _ h => h) (hts _ it9)
  obtain ⟨c10, i10, k10⟩ := u_known (args := #[Value.ref b]) (fun w hw => hts w (zcls10.2.2.1 w hw).1) (fun _ h => h) (hts _ it10)
  obtain ⟨c11, i11, k11⟩ := u_known (args := #[Value.ref b]) (fun w hw => hts w (zcls11.2.2.1 w hw).1) (fun _ h => h) (hts _ it11)
  obtain ⟨c12, i12, k12⟩ := u_known (args := #[Value.ref b]) (fun w hw => hts w (zcls12.2.2.1 w hw).1) (fun _ h => h) (hts _ it12)
  obtain ⟨a0, A0⟩ := zPrim (hts _ ac_int) rfl (fun C h => by cases h)
  obtain ⟨a1, A1⟩ := zPrim (hts _ ac_byte) rfl (fun C h => by cases h)
  obtain ⟨a2, A2⟩ := zPrim (hts _ ac_boolean) rfl (fun C h => by cases h)
  obtain ⟨a3, A3⟩ := zPrim (hts _ ac_long) rfl (fun C h => by cases h)
  obtain ⟨a4, A4⟩ := zArrA (hts _ zao_A)
  obtain ⟨a5, A5⟩ := zObjA (hts _ zao_L)
  obtain ⟨a6, A6⟩ := zObjA (hts _ zao_S)
  obtain ⟨adK, adV, hST, hev⟩ := zStrs (A := fun q => s.heap.size ≤ q) hgv hA
  obtain ⟨t0, Z0, T0⟩ := zTab0 (A := fun q => s.heap.size ≤ q) hts hgv hA
  obtain ⟨t1, Z1, T1⟩ := zTab1 (A := fun q => s.heap.size ≤ q) hts hgv hA
  obtain ⟨t2, Z2, T2⟩ := zTab2 (A := fun q => s.heap.size ≤ q) hts hgv hA
  refine ⟨(s.heap.size, (fun c => match c with | 0 => c0 | 1 => c1 | 2 => c2 | 3 => c3 | 4 => c4 | 5 => c5 | 6 => c6 | 7 => c7 | 8 => c8 | 9 => c9 | 10 => c10 | 11 => c11 | _ => c12, fun c => match c with | 0 => i0 | 1 => i1 | 2 => i2 | 3 => i3 | 4 => i4 | 5 => i5 | 6 => i6 | 7 => i7 | 8 => i8 | 9 => i9 | 10 => i10 | 11 => i11 | _ => i12), (fun c => match c with | 0 => a0 | 1 => a1 | 2 => a2 | 3 => a3 | 4 => a4 | 5 => a5 | _ => a6), adK, adV, (fun i => match i with | 0 => t0 | 1 => t1 | 2 => t2 | _ => b), L, xs), rfl, rfl, rfl, rfl, ?_, ⟨fun w hw => va_Nw.of (zNest_in w hw).2 (hts w (zNest_in w hw).1), va_AO.of (hts _ zao_L), va_AO.of (hts _ zao_S), hts _ zao_A⟩, ⟨hST, ?_, ?_, ?_, ?_, ?_, ?_, ?_⟩, ⟨?_, ?_⟩, Nat.le_refl _⟩
  · intro a w hw hg
    exact word_at (State.WarmedH.refl s) (good_of_word hg) (hts w hw)
  · intro i hi
    exact match i, hi with | 0, _ => ⟨Z0, T0⟩ | 1, _ => ⟨Z1, T1⟩ | 2, _ => ⟨Z2, T2⟩ | _ + 3, hi => absurd hi (by omega)
  · have e0 := hev 0 (by decide)
    have e1 := hev 1 (by decide)
    have e2 := hev 2 (by decide)
    have e3 := hev 3 (by decide)
    have e4 := hev 4 (by decide)
    have e5 := hev 5 (by decide)
    intro q hq
    simp only [zStrR, List.mem_cons, List.not_mem_nil, or_false] at hq
    rcases hq with rfl | rfl | rfl | rfl | rfl | rfl | rfl | rfl | rfl | rfl
    · exact vk_R.of (hts _ zws_RX10_77) e0
    · exact vk_R.of (hts _ zws_RX10_86) e1
    · exact vk_R.of (hts _ zws_RX10_91) e2
    · exact vk_R.of (hts _ zws_RX3_63) e3
    · exact vk_R.of (hts _ zws_RX12_26) e4
    · exact vk_R.of (hts _ zws_RX12_32) (va_eqR (hs _ (by decide +kernel)) e3)
    · exact vk_R.of (hts _ zws_RX12_248) (va_eqR (hs _ (by decide +kernel)) e0)
    · exact vk_R.of (hts _ zws_RX12_254) (va_eqR (hs _ (by decide +kernel)) e1)
    · exact vk_R.of (hts _ zws_RX12_256) (va_eqR (hs _ (by decide +kernel)) e2)
    · exact vk_R.of (hts _ zws_RX12_264) e5
  · exact va_Zof (hts _ zls_C) (hts _ zin_S) (va_eqi (hs _ (by decide +kernel))) hA
  · exact va_Zqof (hts _ zls_F) (hts _ zin_P) (hs _ (by decide +kernel)) hA
  · obtain ⟨scr, h1, h2, h3, h4, h5⟩ := hX
    exact ⟨scr, h1, h2, h3, Nat.le_of_eq h4.symm, by rw [h4], h5, hA b hbl⟩
  · exact vx_Zqof (hts _ zls_U) (hts _ zin_T) (hs _ (by decide +kernel)) hA
  · exact vx_Zqof (hts _ zls_N) (hts _ zin_T) (hs _ (by decide +kernel)) hA
  · intro c q hq
    exact match c, q, hq with | 0, _, rfl => k0 | 1, _, rfl => k1 | 2, _, rfl => k2 | 3, _, rfl => k3 | 4, _, rfl => k4 | 5, _, rfl => k5 | 6, _, rfl => k6 | 7, _, rfl => k7 | 8, _, rfl => k8 | 9, _, rfl => k9 | 10, _, rfl => k10 | 11, _, rfl => k11 | 12, _, rfl => k12 | _ + 13, _, hq => by cases hq
  · intro k q hq
    exact match k, q, hq with | 0, _, rfl => A0 | 1, _, rfl => A1 | 2, _, rfl => A2 | 3, _, rfl => A3 | 4, _, rfl => A4 | 5, _, rfl => A5 | 6, _, rfl => A6 | _ + 7, _, hq => by cases hq
theorem zEnd {G : zG} {below : List Frame} {Q : Option Value → zH → Prop} {a : Array Value} {s t : State} {mc ms : Nat} (hz : G.1 = s.heap.size) (h : MQ below (zQc G Q) a s mc ms (zA G) t) : ∃ (r : Option Value) (h' : zH), Q r h' ∧ t.status = .running ∧ Ended t below (.returned r) ∧ Framed s (.returned r) t [] mc ms := by
  obtain ⟨o, h1, h2, ⟨⟨r, h', rfl, hq, -⟩, -⟩, L, ⟨f1, f2, f3⟩, hL⟩ := h
  refine ⟨r, h', hq, h1, h2, ⟨_, rfl⟩, f2, ?_⟩
  obtain ⟨g1, g2, g3, g4, g5, g6⟩ := f3
  refine ⟨g1, g2, g3, g4, g5, fun b c hb => ?_⟩
  obtain ⟨c', k1, k2, k3, k4⟩ := g6 b c hb
  refine ⟨c', k1, k2, k3, fun i _ => k4 i (fun hm => ?_)⟩
  have q1 : G.1 ≤ b := hL _ hm
  have q2 : b < s.heap.size := (Array.getElem?_eq_some_iff.mp hb).1
  exact Nat.lt_irrefl _ (Nat.lt_of_lt_of_le q2 (hz ▸ q1))
