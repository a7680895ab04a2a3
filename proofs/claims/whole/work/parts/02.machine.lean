/-! A LIGHT MACHINE OVER THE KIT'S ROWS. The heap of ours is a tuple of total functions; zV: the machine at a pc of a method comes to its end with Q; zC: a method's contract. -/
/-- z (the first address of ours), the classes' numbers and slots, the array classes, the String constants, their bytes, the static tables (3: the script), the script's length, the script -/
abbrev zG : Type := Nat × va_G × (Nat → ClassId) × (Nat → Nat) × (Nat → Nat) × (Nat → Nat) × Nat × (Nat → Int32)
/-- ints, longs, references (by address and place), kinds with lengths, the heap's size -/
abbrev zH : Type := (Nat → Nat → Int32) × (Nat → Nat → Int64) × (Nat → Nat → Option Nat) × (Nat → Nat × Nat) × Nat
/-- a method: its name, bytes, locals, what it returns -/
abbrev zM : Type := MethodName × ByteArray × Nat × Option FieldType
abbrev zCl : List vw_C := [(RX0, TX0, 6), (RX1, TX1, 7), (RX2, TX2, 2), (RX3, TX3, 3), (RX4, TX4, 8), (RX5, TX5, 3), (RX6, TX6, 6), (RX7, TX7, 4), (RX8, TX8, 14), (RX9, TX9, 3), (RX10, TX10, 11), (RX11, TX11, 18), (RX12, TX12, 48)]
/-- 0: an int or the like; 1: a long; 2: a reference -/
def zTag : FieldType → Nat
  | .long => 1
  | .object _ => 2
  | .array _ => 2
  | _ => 0
def zTys (ty : Nat → FieldType) (n : Nat) : List Nat := (List.range n).map (fun k => zTag (ty k))
def zTy : Nat → List Nat
  | 0 => zTys tyX0 6
  | 1 => zTys tyX1 7
  | 2 => zTys tyX2 2
  | 3 => zTys tyX3 3
  | 4 => zTys tyX4 8
  | 5 => zTys tyX5 3
  | 6 => zTys tyX6 6
  | 7 => zTys tyX7 4
  | 8 => zTys tyX8 14
  | 9 => zTys tyX9 3
  | 10 => zTys tyX10 11
  | 11 => zTys tyX11 18
  | _ => zTys tyX12 48
def zVal (h : zH) (a k t : Nat) : Value := if t = 0 then .int (h.1 a k) else if t = 1 then .long (h.2.1 a k) else va_rf (h.2.2.1 a k)
def zFs (h : zH) (a : Nat) (ts : List Nat) : List Value := ts.mapIdx (fun k t => zVal h a k t)
/-- the array classes: 0 int, 1 byte, 2 boolean, 3 long, 4 int[], 5 Law, 6 Spring -/
def zCell (G : zG) (h : zH) (a : Nat) : va_E :=
  if (h.2.2.2.1 a).1 < 13 then .inr ((h.2.2.2.1 a).1, zFs h a (zTy (h.2.2.2.1 a).1))
  else if (h.2.2.2.1 a).1 < 35 then .inl (G.2.2.1 ((h.2.2.2.1 a).1 - 32), (h.2.2.2.1 a).2, .inl (h.1 a))
  else if (h.2.2.2.1 a).1 = 35 then .inl (G.2.2.1 3, (h.2.2.2.1 a).2, .inr (.inl (h.2.1 a)))
  else .inl (G.2.2.1 ((h.2.2.2.1 a).1 - 32), (h.2.2.2.1 a).2, .inr (.inr (.inr (.inr (h.2.2.1 a)))))
def zTT (G : zG) : List (ClassId × FieldType) := [(G.2.2.1 0, .int), (G.2.2.1 1, .byte), (G.2.2.1 2, .boolean), (G.2.2.1 3, .long), (G.2.2.1 4, .array .int), (G.2.2.1 5, .object RX2), (G.2.2.1 6, .object RX7)]
def zA (G : zG) : Nat → Prop := fun q => G.1 ≤ q
/-- the words of the tables that stay -/
def zTab (s : State) : Prop := ∀ (a : Array Value) (w : Cond), w ∈ lw_tbl → goodWord w = true → w.before a s = true
def zNest : List Cond := lw_tbl.filter (fun w => match w with | .fieldLinkNest .. => true | .methodLinkNest .. => true | .declares .. => true | .castable .. => true | _ => false)
def zAOA (s : State) : Prop := (Cond.arrayOver (.array .int)).before #[] s = true
theorem zAOA.moved {u U : State} (hvm : u.vm.Alike U.vm) (h : zAOA u) : zAOA U := over_moved hvm h
def zNst (s : State) : Prop := (∀ w ∈ zNest, va_Nw w s) ∧ va_AO RX2 s ∧ va_AO RX7 s ∧ zAOA s
/-- what is at the start and nobody writes: String constants, static tables -/
def zStrN : List Nat := [2, 2, 3, 6, 1, 4]
def zStrB : List (List Int32) := [[108, 99], [121, 103], [97, 118, 107], [107, 103, 110, 98, 108, 100], [121], [102, 112, 105, 110]]
def zTbl : Nat → List Int32
  | 0 => [0, 99, 0, 99]
  | 1 => [1, 40, 0, 9]
  | _ => [0, 5, 0, 5, 1, 9]
def zTnm : Nat → String
  | 0 => "RULE_BOUNDS"
  | 1 => "FARM_BOUNDS"
  | _ => "WRONG_BOUNDS"
/-- the String constants by the classes' entries: class, entry, text, which -/
def zStrR : List (String × Nat × String × Nat) := [(RX10, 77, "lc", 0), (RX10, 86, "yg", 1), (RX10, 91, "avk", 2), (RX3, 63, "kgnbld", 3), (RX12, 26, "y", 4), (RX12, 32, "kgnbld", 3), (RX12, 248, "lc", 0), (RX12, 254, "yg", 1), (RX12, 256, "avk", 2), (RX12, 264, "fpin", 5)]
def zRO (G : zG) (s : State) (H : Heap) : Prop :=
  vk_S 6 zStrN zStrB G.2.2.2.1 G.2.2.2.2.1 (zA G) s H ∧
  (∀ i : Nat, i < 3 → va_Z RX10 (zTnm i) "[I" (.ref (G.2.2.2.2.2.1 i)) (zA G) s H ∧ va_T .int (G.2.2.2.2.2.1 i) (zTbl i).length (fun j => .int ((zTbl i).getD j 0)) (zA G) s H) ∧
  (∀ q ∈ zStrR, vk_R q.1 q.2.1 q.2.2.1 (G.2.2.2.1 q.2.2.2) s) ∧ va_Z "java/lang/String" "COMPACT_STRINGS" "Z" (.int 1) (zA G) s H ∧ va_Zq "jdk/internal/util/Preconditions" "SIOOBE_FORMATTER" "Ljava/util/function/BiFunction;" (zA G) s H ∧ va_T .int (G.2.2.2.2.2.1 3) G.2.2.2.2.2.2.1 (fun j => .int (G.2.2.2.2.2.2.2 j)) (zA G) s H ∧ vx_Zq Bundle.tN "UNASSIGNED_STACK" Bundle.steD (zA G) s H ∧ vx_Zq Bundle.tN "SUPPRESSED_SENTINEL" Bundle.listD (zA G) s H
/-- the heap holds the tuple; of a cell of kind 99 nothing is said -/
def zAt (G : zG) (h : zH) (H : Heap) : Prop := (∀ a : Nat, G.1 ≤ a → a < h.2.2.2.2 → (h.2.2.2.1 a).1 ≠ 99 → va_at G.2.1 zCl (a, zCell G h a) H) ∧ H.size = h.2.2.2.2 ∧ G.1 ≤ h.2.2.2.2
/-- what a state's tables say -/
def zSt (G : zG) (s : State) : Prop := zTab s ∧ zNst s ∧ zRO G s s.heap ∧ va_K G.2.1 zCl (zTT G) s ∧ G.1 ≤ s.heap.size
def zCx (G : zG) (d : Nat) (M : zM) (p : Program) (l : Launch) (R : Room) (s : State) (m : MethodId) (meth : Method) (c : Code) : Prop :=
  p.tables.exec = Jvm.exec ∧ c.code = M.2.1 ∧ c.maxLocals = M.2.2.1 ∧ meth.sig.returnType = M.2.2.2 ∧ meth.locks = false ∧ s.vm.findClass M.1.cls = some m.cls ∧ meth.name = M.1.name ∧ zSt G s ∧ d ≤ R.frames ∧ 64 * d ≤ R.locals ∧ l.flags = flags0
def zQc (G : zG) (Q : Option Value → zH → Prop) : Array Value → State → Outcome → State → Prop := fun _ st oc t =>
  (∃ (r : Option Value) (h : zH), oc = .returned r ∧ Q r h ∧ zAt G h t.heap) ∧ va_F (zA G) st t
def zV (G : zG) (d : Nat) (M : zM) (kc ks pc : Nat) (ls : List (Nat × Value)) (st : List Value) (h : zH) (Q : Option Value → zH → Prop) : Prop :=
  ∀ (p : Program) (l : Launch) (e : Env) (R : Room) (s : State) (m : MethodId) (args : Array Value) (below : List Frame) (meth : Method) (c : Code) (H : Heap) (locs : List Loc) (cells slots : Nat) (la : Array Slot),
    zCx G d M p l R s m meth c → zAt G h H → va_S (zA G) s.heap H locs → cells + kc = R.cells → slots + ks = R.slots → lv_has la M.2.2.1 ls →
    W p l e R s m args below meth c H locs cells slots (MQ below (zQc G Q) args s R.cells R.slots (zA G)) (F0 m pc la st)
def zRm (d kc ks : Nat) : Room := { frames := d, cells := kc, slots := ks, locals := 64 * d }
def zPre (G : zG) (h : zH) (U : State) : Prop := zSt G U ∧ zAt G h U.heap
def zC (G : zG) (d : Nat) (M : zM) (kc ks : Nat) (vs : List Value) (h : zH) (Q : Option Value → zH → Prop) : Prop :=
  ∀ l : Launch, l.flags = flags0 → Met l M.1 [.code M.1 M.2.1 M.2.2.1 M.2.2.2] (zRm d kc ks) (va_Pc vs (zPre G h)) (zQc G Q) kc ks (zA G)
-- the tables' facts move along
theorem zTab.warm {s U : State} (hW : s.WarmedH U.vm) (h : zTab s) : zTab U := fun a w hw hg => word_at hW (good_of_word hg) (h a w hw hg)
theorem zNst.warm {s U : State} (hW : s.WarmedH U.vm) (h : zNst s) : zNst U := by
  refine ⟨fun w hw => ?_, h.2.1.moved hW.alike, h.2.2.1.moved hW.alike, h.2.2.2.moved hW.alike⟩
  have h1 := h.1 w hw
  unfold zNest at hw
  obtain ⟨-, h2⟩ := List.mem_filter.mp hw
  cases w <;> first | exact va_Nw.warmF hW h1 | exact va_Nw.warmM hW h1 | exact va_Nw.warmD hW h1 | exact va_Nw.warmC hW h1 | (cases h2)
theorem zRO.moved {G : zG} {s U : State} {H H1 : Heap} (hW : s.WarmedH U.vm) (h : zRO G s H) (hq : ∀ a : Nat, a < H.size → ¬ zA G a → H1[a]? = H[a]?) : zRO G U H1 :=
  ⟨(h.1.moved hW.alike).kept hq, fun i hi => ⟨((h.2.1 i hi).1.moved hW.alike).kept hq, ((h.2.1 i hi).2.moved hW.alike).kept hq⟩, fun q hq => (h.2.2.1 q hq).warm hW, (h.2.2.2.1.moved hW.alike).kept hq, (h.2.2.2.2.1.moved hW.alike).kept hq, (h.2.2.2.2.2.1.moved hW.alike).kept hq, (h.2.2.2.2.2.2.1.moved hW.alike).kept hq, (h.2.2.2.2.2.2.2.moved hW.alike).kept hq⟩
theorem zSt.warm {G : zG} {s U : State} {H : Heap} {locs : List Loc} (h : zSt G s) (hS : va_S (zA G) s.heap H locs) (hH : U.heap = H) (hW : s.WarmedH U.vm) : zSt G U :=
  ⟨h.1.warm hW, h.2.1.warm hW, h.2.2.1.moved hW (fun a h1 h2 => by rw [hH]; exact hS.2.1 a h1 h2), va_K.moved hW.alike h.2.2.2.1, Nat.le_trans h.2.2.2.2 (by rw [hH]; exact hS.1)⟩
theorem zSt.call {G : zG} {U : State} (h : zSt G U) (a : Array Value) (g : JFrame) (mk : MethodId) : zSt G (U.calling g mk a) := by
  obtain ⟨h1, h2, h3, h4, h5⟩ := h
  refine ⟨fun a w hw hg => ?_, ?_, ?_, va_K.moved (u := U) (U := U.calling g mk a) (Vm.Alike.refl U.vm) h4, h5⟩
  · exact word_at (s := U) (U := U.calling g mk _) (State.WarmedH.refl U) (good_of_word hg) (h1 a w hw hg)
  · exact zNst.warm (s := U) (U := U.calling g mk a) (State.WarmedH.refl U) h2
  · exact zRO.moved (s := U) (U := U.calling g mk a) (H1 := U.heap) (State.WarmedH.refl U) h3 (fun _ _ _ => rfl)
