theorem zIconst {G : zG} {d kc ks pc : Nat} {M : zM} {ls : List (Nat × Value)} {st : List Value} {h : zH} {Q : Option Value → zH → Prop} (n : Int) (v : Int32) (pc' : Nat) (hd : decode M.2.1 pc = .ok (.iconst n, 1)) (hn : pc + 1 = pc') (hv : Int32.ofInt n = v) (K : zV G d M kc ks pc' ls (.int v :: st) h Q) : zV G d M kc ks pc ls st h Q := by
  subst hn
  intro p l e R s m args below meth c H locs cells slots la X hA hS hc hs hl
  exact lv_iconst X.1 X.2.1 hd hv (K p l e R s m args below meth c H locs cells slots la X hA hS hc hs hl)
theorem zBipush {G : zG} {d kc ks pc : Nat} {M : zM} {ls : List (Nat × Value)} {st : List Value} {h : zH} {Q : Option Value → zH → Prop} (n : Int) (v : Int32) (pc' : Nat) (hd : decode M.2.1 pc = .ok (.bipush n, 2)) (hn : pc + 2 = pc') (hv : (Int8.ofInt n).toInt32 = v) (K : zV G d M kc ks pc' ls (.int v :: st) h Q) : zV G d M kc ks pc ls st h Q := by
  subst hn
  intro p l e R s m args below meth c H locs cells slots la X hA hS hc hs hl
  exact lv_bipush X.1 X.2.1 hd hv (K p l e R s m args below meth c H locs cells slots la X hA hS hc hs hl)
theorem zSipush {G : zG} {d kc ks pc : Nat} {M : zM} {ls : List (Nat × Value)} {st : List Value} {h : zH} {Q : Option Value → zH → Prop} (n : Int) (v : Int32) (pc' : Nat) (hd : decode M.2.1 pc = .ok (.sipush n, 3)) (hn : pc + 3 = pc') (hv : (Int16.ofInt n).toInt32 = v) (K : zV G d M kc ks pc' ls (.int v :: st) h Q) : zV G d M kc ks pc ls st h Q := by
  subst hn
  intro p l e R s m args below meth c H locs cells slots la X hA hS hc hs hl
  exact lv_sipush X.1 X.2.1 hd hv (K p l e R s m args below meth c H locs cells slots la X hA hS hc hs hl)
theorem zLconst {G : zG} {d kc ks pc : Nat} {M : zM} {ls : List (Nat × Value)} {st : List Value} {h : zH} {Q : Option Value → zH → Prop} (n : Fin 2) (v : Int64) (pc' : Nat) (hd : decode M.2.1 pc = .ok (.lconst n, 1)) (hn : pc + 1 = pc') (hv : Int64.ofNat (n : Nat) = v) (K : zV G d M kc ks pc' ls (.long v :: st) h Q) : zV G d M kc ks pc ls st h Q := by
  subst hn
  intro p l e R s m args below meth c H locs cells slots la X hA hS hc hs hl
  exact lv_lconst X.1 X.2.1 hd hv (K p l e R s m args below meth c H locs cells slots la X hA hS hc hs hl)
theorem zNull {G : zG} {d kc ks pc : Nat} {M : zM} {ls : List (Nat × Value)} {st : List Value} {h : zH} {Q : Option Value → zH → Prop}  (pc' : Nat) (hd : decode M.2.1 pc = .ok (.aconst_null, 1)) (hn : pc + 1 = pc') (K : zV G d M kc ks pc' ls (.null :: st) h Q) : zV G d M kc ks pc ls st h Q := by
  subst hn
  intro p l e R s m args below meth c H locs cells slots la X hA hS hc hs hl
  exact lv_null X.1 X.2.1 hd (K p l e R s m args below meth c H locs cells slots la X hA hS hc hs hl)
theorem zIload_n {G : zG} {d kc ks pc : Nat} {M : zM} {ls : List (Nat × Value)} {st : List Value} {h : zH} {Q : Option Value → zH → Prop} (k : Fin 4) (j : Nat) {x : Int32} (pc' : Nat) (hd : decode M.2.1 pc = .ok (.iload_n k, 1)) (hn : pc + 1 = pc') (hj : ls[j]? = some ((k : Nat), .int x)) (K : zV G d M kc ks pc' ls (.int x :: st) h Q) : zV G d M kc ks pc ls st h Q := by
  subst hn
  intro p l e R s m args below meth c H locs cells slots la X hA hS hc hs hl
  exact lv_iload_n X.1 X.2.1 hd rfl (lv_at hl j hj) (K p l e R s m args below meth c H locs cells slots la X hA hS hc hs hl)
theorem zIload {G : zG} {d kc ks pc : Nat} {M : zM} {ls : List (Nat × Value)} {st : List Value} {h : zH} {Q : Option Value → zH → Prop} (k j : Nat) {x : Int32} (pc' : Nat) (hd : decode M.2.1 pc = .ok (.iload k, 2)) (hn : pc + 2 = pc') (hj : ls[j]? = some (k, .int x)) (K : zV G d M kc ks pc' ls (.int x :: st) h Q) : zV G d M kc ks pc ls st h Q := by
  subst hn
  intro p l e R s m args below meth c H locs cells slots la X hA hS hc hs hl
  exact lv_iload X.1 X.2.1 hd (lv_at hl j hj) (K p l e R s m args below meth c H locs cells slots la X hA hS hc hs hl)
theorem zIstore_n {G : zG} {d kc ks pc : Nat} {M : zM} {ls : List (Nat × Value)} {st : List Value} {h : zH} {Q : Option Value → zH → Prop} (k : Fin 4) (ls' : List (Nat × Value)) {x : Int32} (pc' : Nat) (hd : decode M.2.1 pc = .ok (.istore_n k, 1)) (hn : pc + 1 = pc') (hk : (k : Nat) < M.2.2.1) (hls : ((k : Nat), Value.int x) :: ls.filter (fun q => !(q.1 == (k : Nat)) && !(q.1 + 1 == (k : Nat) && q.2.category == 2)) = ls') (K : zV G d M kc ks pc' ls' st h Q) : zV G d M kc ks pc ls (.int x :: st) h Q := by
  subst hn
  intro p l e R s m args below meth c H locs cells slots la X hA hS hc hs hl
  exact lv_istore_n X.1 X.2.1 hd rfl hl hk hls (fun la' hl' => K p l e R s m args below meth c H locs cells slots la' X hA hS hc hs hl')
theorem zIstore {G : zG} {d kc ks pc : Nat} {M : zM} {ls : List (Nat × Value)} {st : List Value} {h : zH} {Q : Option Value → zH → Prop} (k : Nat) (ls' : List (Nat × Value)) {x : Int32} (pc' : Nat) (hd : decode M.2.1 pc = .ok (.istore k, 2)) (hn : pc + 2 = pc') (hk : k < M.2.2.1) (hls : (k, Value.int x) :: ls.filter (fun q => !(q.1 == k) && !(q.1 + 1 == k && q.2.category == 2)) = ls') (K : zV G d M kc ks pc' ls' st h Q) : zV G d M kc ks pc ls (.int x :: st) h Q := by
  subst hn
  intro p l e R s m args below meth c H locs cells slots la X hA hS hc hs hl
  exact lv_istore X.1 X.2.1 hd hl hk hls (fun la' hl' => K p l e R s m args below meth c H locs cells slots la' X hA hS hc hs hl')
theorem zLload_n {G : zG} {d kc ks pc : Nat} {M : zM} {ls : List (Nat × Value)} {st : List Value} {h : zH} {Q : Option Value → zH → Prop} (k : Fin 4) (j : Nat) {x : Int64} (pc' : Nat) (hd : decode M.2.1 pc = .ok (.lload_n k, 1)) (hn : pc + 1 = pc') (hj : ls[j]? = some ((k : Nat), .long x)) (K : zV G d M kc ks pc' ls (.long x :: st) h Q) : zV G d M kc ks pc ls st h Q := by
  subst hn
  intro p l e R s m args below meth c H locs cells slots la X hA hS hc hs hl
  exact lv_lload_n X.1 X.2.1 hd rfl (lv_at hl j hj) (K p l e R s m args below meth c H locs cells slots la X hA hS hc hs hl)
theorem zLload {G : zG} {d kc ks pc : Nat} {M : zM} {ls : List (Nat × Value)} {st : List Value} {h : zH} {Q : Option Value → zH → Prop} (k j : Nat) {x : Int64} (pc' : Nat) (hd : decode M.2.1 pc = .ok (.lload k, 2)) (hn : pc + 2 = pc') (hj : ls[j]? = some (k, .long x)) (K : zV G d M kc ks pc' ls (.long x :: st) h Q) : zV G d M kc ks pc ls st h Q := by
  subst hn
  intro p l e R s m args below meth c H locs cells slots la X hA hS hc hs hl
  exact lv_lload X.1 X.2.1 hd (lv_at hl j hj) (K p l e R s m args below meth c H locs cells slots la X hA hS hc hs hl)
theorem zLstore_n {G : zG} {d kc ks pc : Nat} {M : zM} {ls : List (Nat × Value)} {st : List Value} {h : zH} {Q : Option Value → zH → Prop} (k : Fin 4) (ls' : List (Nat × Value)) {x : Int64} (pc' : Nat) (hd : decode M.2.1 pc = .ok (.lstore_n k, 1)) (hn : pc + 1 = pc') (hk : (k : Nat) + 1 < M.2.2.1) (hls : ((k : Nat), Value.long x) :: ls.filter (fun q => !(q.1 == (k : Nat)) && (!(q.1 == (k : Nat) + 1) && !(q.1 + 1 == (k : Nat) && q.2.category == 2))) = ls') (K : zV G d M kc ks pc' ls' st h Q) : zV G d M kc ks pc ls (.long x :: st) h Q := by
  subst hn
  intro p l e R s m args below meth c H locs cells slots la X hA hS hc hs hl
  exact lv_lstore_n X.1 X.2.1 hd rfl hl hk hls (fun la' hl' => K p l e R s m args below meth c H locs cells slots la' X hA hS hc hs hl')
theorem zLstore {G : zG} {d kc ks pc : Nat} {M : zM} {ls : List (Nat × Value)} {st : List Value} {h : zH} {Q : Option Value → zH → Prop} (k : Nat) (ls' : List (Nat × Value)) {x : Int64} (pc' : Nat) (hd : decode M.2.1 pc = .ok (.lstore k, 2)) (hn : pc + 2 = pc') (hk : k + 1 < M.2.2.1) (hls : (k, Value.long x) :: ls.filter (fun q => !(q.1 == k) && (!(q.1 == k + 1) && !(q.1 + 1 == k && q.2.category == 2))) = ls') (K : zV G d M kc ks pc' ls' st h Q) : zV G d M kc ks pc ls (.long x :: st) h Q := by
  subst hn
  intro p l e R s m args below meth c H locs cells slots la X hA hS hc hs hl
  exact lv_lstore X.1 X.2.1 hd hl hk hls (fun la' hl' => K p l e R s m args below meth c H locs cells slots la' X hA hS hc hs hl')
theorem zAload_n {G : zG} {d kc ks pc : Nat} {M : zM} {ls : List (Nat × Value)} {st : List Value} {h : zH} {Q : Option Value → zH → Prop} (k : Fin 4) (j : Nat) {x : Nat} (pc' : Nat) (hd : decode M.2.1 pc = .ok (.aload_n k, 1)) (hn : pc + 1 = pc') (hj : ls[j]? = some ((k : Nat), .ref x)) (K : zV G d M kc ks pc' ls (.ref x :: st) h Q) : zV G d M kc ks pc ls st h Q := by
  subst hn
  intro p l e R s m args below meth c H locs cells slots la X hA hS hc hs hl
  exact lv_aload_n X.1 X.2.1 hd rfl (lv_at hl j hj) (K p l e R s m args below meth c H locs cells slots la X hA hS hc hs hl)
theorem zAload {G : zG} {d kc ks pc : Nat} {M : zM} {ls : List (Nat × Value)} {st : List Value} {h : zH} {Q : Option Value → zH → Prop} (k j : Nat) {x : Nat} (pc' : Nat) (hd : decode M.2.1 pc = .ok (.aload k, 2)) (hn : pc + 2 = pc') (hj : ls[j]? = some (k, .ref x)) (K : zV G d M kc ks pc' ls (.ref x :: st) h Q) : zV G d M kc ks pc ls st h Q := by
  subst hn
  intro p l e R s m args below meth c H locs cells slots la X hA hS hc hs hl
  exact lv_aload X.1 X.2.1 hd (lv_at hl j hj) (K p l e R s m args below meth c H locs cells slots la X hA hS hc hs hl)
theorem zAstore_n {G : zG} {d kc ks pc : Nat} {M : zM} {ls : List (Nat × Value)} {st : List Value} {h : zH} {Q : Option Value → zH → Prop} (k : Fin 4) (ls' : List (Nat × Value)) {x : Nat} (pc' : Nat) (hd : decode M.2.1 pc = .ok (.astore_n k, 1)) (hn : pc + 1 = pc') (hk : (k : Nat) < M.2.2.1) (hls : ((k : Nat), Value.ref x) :: ls.filter (fun q => !(q.1 == (k : Nat)) && !(q.1 + 1 == (k : Nat) && q.2.category == 2)) = ls') (K : zV G d M kc ks pc' ls' st h Q) : zV G d M kc ks pc ls (.ref x :: st) h Q := by
  subst hn
  intro p l e R s m args below meth c H locs cells slots la X hA hS hc hs hl
  exact lv_astore_n X.1 X.2.1 hd rfl hl hk hls (fun la' hl' => K p l e R s m args below meth c H locs cells slots la' X hA hS hc hs hl')
theorem zAstore {G : zG} {d kc ks pc : Nat} {M : zM} {ls : List (Nat × Value)} {st : List Value} {h : zH} {Q : Option Value → zH → Prop} (k : Nat) (ls' : List (Nat × Value)) {x : Nat} (pc' : Nat) (hd : decode M.2.1 pc = .ok (.astore k, 2)) (hn : pc + 2 = pc') (hk : k < M.2.2.1) (hls : (k, Value.ref x) :: ls.filter (fun q => !(q.1 == k) && !(q.1 + 1 == k && q.2.category == 2)) = ls') (K : zV G d M kc ks pc' ls' st h Q) : zV G d M kc ks pc ls (.ref x :: st) h Q := by
  subst hn
  intro p l e R s m args below meth c H locs cells slots la X hA hS hc hs hl
  exact lv_astore X.1 X.2.1 hd hl hk hls (fun la' hl' => K p l e R s m args below meth c H locs cells slots la' X hA hS hc hs hl')
theorem zIinc {G : zG} {d kc ks pc : Nat} {M : zM} {ls : List (Nat × Value)} {st : List Value} {h : zH} {Q : Option Value → zH → Prop} (i : Nat) (n : Int) (j : Nat) (v : Int32) (ls' : List (Nat × Value)) {x : Int32} (pc' : Nat) (hd : decode M.2.1 pc = .ok (.iinc i n, 3)) (hn : pc + 3 = pc') (hj : ls[j]? = some (i, .int x)) (hv : x + Int32.ofInt n = v) (hk : i < M.2.2.1) (hls : (i, Value.int v) :: ls.filter (fun q => !(q.1 == i) && !(q.1 + 1 == i && q.2.category == 2)) = ls') (K : zV G d M kc ks pc' ls' st h Q) : zV G d M kc ks pc ls st h Q := by
  subst hn
  intro p l e R s m args below meth c H locs cells slots la X hA hS hc hs hl
  exact lv_iinc X.1 X.2.1 hd hl hj hv hk hls (fun la' hl' => K p l e R s m args below meth c H locs cells slots la' X hA hS hc hs hl')
theorem zLoc {G : zG} {d kc ks pc : Nat} {M : zM} {ls : List (Nat × Value)} {st : List Value} {h : zH} {Q : Option Value → zH → Prop} (is : List Nat) (ls' : List (Nat × Value)) (hls : lv_pick ls is = ls') (K : zV G d M kc ks pc ls' st h Q) : zV G d M kc ks pc ls st h Q := by
  intro p l e R s m args below meth c H locs cells slots la X hA hS hc hs hl
  exact K p l e R s m args below meth c H locs cells slots la X hA hS hc hs (lv_sub hl is hls)
theorem zIadd {G : zG} {d kc ks pc : Nat} {M : zM} {ls : List (Nat × Value)} {st : List Value} {h : zH} {Q : Option Value → zH → Prop} {x y : Int32} (pc' : Nat) (hd : decode M.2.1 pc = .ok (.iadd, 1)) (hn : pc + 1 = pc') (K : zV G d M kc ks pc' ls (.int (x + y) :: st) h Q) : zV G d M kc ks pc ls (.int y :: .int x :: st) h Q := by
  subst hn
  intro p l e R s m args below meth c H locs cells slots la X hA hS hc hs hl
  exact lv_iadd X.1 X.2.1 hd (K p l e R s m args below meth c H locs cells slots la X hA hS hc hs hl)
theorem zIsub {G : zG} {d kc ks pc : Nat} {M : zM} {ls : List (Nat × Value)} {st : List Value} {h : zH} {Q : Option Value → zH → Prop} {x y : Int32} (pc' : Nat) (hd : decode M.2.1 pc = .ok (.isub, 1)) (hn : pc + 1 = pc') (K : zV G d M kc ks pc' ls (.int (x - y) :: st) h Q) : zV G d M kc ks pc ls (.int y :: .int x :: st) h Q := by
  subst hn
  intro p l e R s m args below meth c H locs cells slots la X hA hS hc hs hl
  exact lv_isub X.1 X.2.1 hd (K p l e R s m args below meth c H locs cells slots la X hA hS hc hs hl)
theorem zImul {G : zG} {d kc ks pc : Nat} {M : zM} {ls : List (Nat × Value)} {st : List Value} {h : zH} {Q : Option Value → zH → Prop} {x y : Int32} (pc' : Nat) (hd : decode M.2.1 pc = .ok (.imul, 1)) (hn : pc + 1 = pc') (K : zV G d M kc ks pc' ls (.int (x * y) :: st) h Q) : zV G d M kc ks pc ls (.int y :: .int x :: st) h Q := by
  subst hn
  intro p l e R s m args below meth c H locs cells slots la X hA hS hc hs hl
  exact lv_imul X.1 X.2.1 hd (K p l e R s m args below meth c H locs cells slots la X hA hS hc hs hl)
theorem zIand {G : zG} {d kc ks pc : Nat} {M : zM} {ls : List (Nat × Value)} {st : List Value} {h : zH} {Q : Option Value → zH → Prop} {x y : Int32} (pc' : Nat) (hd : decode M.2.1 pc = .ok (.iand, 1)) (hn : pc + 1 = pc') (K : zV G d M kc ks pc' ls (.int (x &&& y) :: st) h Q) : zV G d M kc ks pc ls (.int y :: .int x :: st) h Q := by
  subst hn
  intro p l e R s m args below meth c H locs cells slots la X hA hS hc hs hl
  exact lv_iand X.1 X.2.1 hd (K p l e R s m args below meth c H locs cells slots la X hA hS hc hs hl)
theorem zIor {G : zG} {d kc ks pc : Nat} {M : zM} {ls : List (Nat × Value)} {st : List Value} {h : zH} {Q : Option Value → zH → Prop} {x y : Int32} (pc' : Nat) (hd : decode M.2.1 pc = .ok (.ior, 1)) (hn : pc + 1 = pc') (K : zV G d M kc ks pc' ls (.int (x ||| y) :: st) h Q) : zV G d M kc ks pc ls (.int y :: .int x :: st) h Q := by
  subst hn
  intro p l e R s m args below meth c H locs cells slots la X hA hS hc hs hl
  exact lv_ior X.1 X.2.1 hd (K p l e R s m args below meth c H locs cells slots la X hA hS hc hs hl)
theorem zIxor {G : zG} {d kc ks pc : Nat} {M : zM} {ls : List (Nat × Value)} {st : List Value} {h : zH} {Q : Option Value → zH → Prop} {x y : Int32} (pc' : Nat) (hd : decode M.2.1 pc = .ok (.ixor, 1)) (hn : pc + 1 = pc') (K : zV G d M kc ks pc' ls (.int (x ^^^ y) :: st) h Q) : zV G d M kc ks pc ls (.int y :: .int x :: st) h Q := by
  subst hn
  intro p l e R s m args below meth c H locs cells slots la X hA hS hc hs hl
  exact lv_ixor X.1 X.2.1 hd (K p l e R s m args below meth c H locs cells slots la X hA hS hc hs hl)
theorem zIshl {G : zG} {d kc ks pc : Nat} {M : zM} {ls : List (Nat × Value)} {st : List Value} {h : zH} {Q : Option Value → zH → Prop} {x y : Int32} (pc' : Nat) (hd : decode M.2.1 pc = .ok (.ishl, 1)) (hn : pc + 1 = pc') (K : zV G d M kc ks pc' ls (.int (x <<< (y &&& 31)) :: st) h Q) : zV G d M kc ks pc ls (.int y :: .int x :: st) h Q := by
  subst hn
  intro p l e R s m args below meth c H locs cells slots la X hA hS hc hs hl
  exact lv_ishl X.1 X.2.1 hd (K p l e R s m args below meth c H locs cells slots la X hA hS hc hs hl)
theorem zIshr {G : zG} {d kc ks pc : Nat} {M : zM} {ls : List (Nat × Value)} {st : List Value} {h : zH} {Q : Option Value → zH → Prop} {x y : Int32} (pc' : Nat) (hd : decode M.2.1 pc = .ok (.ishr, 1)) (hn : pc + 1 = pc') (K : zV G d M kc ks pc' ls (.int (x >>> (y &&& 31)) :: st) h Q) : zV G d M kc ks pc ls (.int y :: .int x :: st) h Q := by
  subst hn
  intro p l e R s m args below meth c H locs cells slots la X hA hS hc hs hl
  exact lv_ishr X.1 X.2.1 hd (K p l e R s m args below meth c H locs cells slots la X hA hS hc hs hl)
theorem zIdiv {G : zG} {d kc ks pc : Nat} {M : zM} {ls : List (Nat × Value)} {st : List Value} {h : zH} {Q : Option Value → zH → Prop} {x y : Int32} (pc' : Nat) (hd : decode M.2.1 pc = .ok (.idiv, 1)) (hn : pc + 1 = pc') (hne : ¬ y = 0) (K : zV G d M kc ks pc' ls (.int (x / y) :: st) h Q) : zV G d M kc ks pc ls (.int y :: .int x :: st) h Q := by
  subst hn
  intro p l e R s m args below meth c H locs cells slots la X hA hS hc hs hl
  exact lv_idiv X.1 X.2.1 hd hne (K p l e R s m args below meth c H locs cells slots la X hA hS hc hs hl)
theorem zIrem {G : zG} {d kc ks pc : Nat} {M : zM} {ls : List (Nat × Value)} {st : List Value} {h : zH} {Q : Option Value → zH → Prop} {x y : Int32} (pc' : Nat) (hd : decode M.2.1 pc = .ok (.irem, 1)) (hn : pc + 1 = pc') (hne : ¬ y = 0) (K : zV G d M kc ks pc' ls (.int (x - x / y * y) :: st) h Q) : zV G d M kc ks pc ls (.int y :: .int x :: st) h Q := by
  subst hn
  intro p l e R s m args below meth c H locs cells slots la X hA hS hc hs hl
  exact lv_irem X.1 X.2.1 hd hne (K p l e R s m args below meth c H locs cells slots la X hA hS hc hs hl)
theorem zIneg {G : zG} {d kc ks pc : Nat} {M : zM} {ls : List (Nat × Value)} {st : List Value} {h : zH} {Q : Option Value → zH → Prop} {x : Int32} (pc' : Nat) (hd : decode M.2.1 pc = .ok (.ineg, 1)) (hn : pc + 1 = pc') (K : zV G d M kc ks pc' ls (.int (-x) :: st) h Q) : zV G d M kc ks pc ls (.int x :: st) h Q := by
  subst hn
  intro p l e R s m args below meth c H locs cells slots la X hA hS hc hs hl
  exact lv_ineg X.1 X.2.1 hd (K p l e R s m args below meth c H locs cells slots la X hA hS hc hs hl)
theorem zLadd {G : zG} {d kc ks pc : Nat} {M : zM} {ls : List (Nat × Value)} {st : List Value} {h : zH} {Q : Option Value → zH → Prop} {x y : Int64} (pc' : Nat) (hd : decode M.2.1 pc = .ok (.ladd, 1)) (hn : pc + 1 = pc') (K : zV G d M kc ks pc' ls (.long (x + y) :: st) h Q) : zV G d M kc ks pc ls (.long y :: .long x :: st) h Q := by
  subst hn
  intro p l e R s m args below meth c H locs cells slots la X hA hS hc hs hl
  exact lv_ladd X.1 X.2.1 hd (K p l e R s m args below meth c H locs cells slots la X hA hS hc hs hl)
theorem zLsub {G : zG} {d kc ks pc : Nat} {M : zM} {ls : List (Nat × Value)} {st : List Value} {h : zH} {Q : Option Value → zH → Prop} {x y : Int64} (pc' : Nat) (hd : decode M.2.1 pc = .ok (.lsub, 1)) (hn : pc + 1 = pc') (K : zV G d M kc ks pc' ls (.long (x - y) :: st) h Q) : zV G d M kc ks pc ls (.long y :: .long x :: st) h Q := by
  subst hn
  intro p l e R s m args below meth c H locs cells slots la X hA hS hc hs hl
  exact lv_lsub X.1 X.2.1 hd (K p l e R s m args below meth c H locs cells slots la X hA hS hc hs hl)
theorem zLmul {G : zG} {d kc ks pc : Nat} {M : zM} {ls : List (Nat × Value)} {st : List Value} {h : zH} {Q : Option Value → zH → Prop} {x y : Int64} (pc' : Nat) (hd : decode M.2.1 pc = .ok (.lmul, 1)) (hn : pc + 1 = pc') (K : zV G d M kc ks pc' ls (.long (x * y) :: st) h Q) : zV G d M kc ks pc ls (.long y :: .long x :: st) h Q := by
  subst hn
  intro p l e R s m args below meth c H locs cells slots la X hA hS hc hs hl
  exact lv_lmul X.1 X.2.1 hd (K p l e R s m args below meth c H locs cells slots la X hA hS hc hs hl)
theorem zLand {G : zG} {d kc ks pc : Nat} {M : zM} {ls : List (Nat × Value)} {st : List Value} {h : zH} {Q : Option Value → zH → Prop} {x y : Int64} (pc' : Nat) (hd : decode M.2.1 pc = .ok (.land, 1)) (hn : pc + 1 = pc') (K : zV G d M kc ks pc' ls (.long (x &&& y) :: st) h Q) : zV G d M kc ks pc ls (.long y :: .long x :: st) h Q := by
  subst hn
  intro p l e R s m args below meth c H locs cells slots la X hA hS hc hs hl
  exact lv_land X.1 X.2.1 hd (K p l e R s m args below meth c H locs cells slots la X hA hS hc hs hl)
theorem zLor {G : zG} {d kc ks pc : Nat} {M : zM} {ls : List (Nat × Value)} {st : List Value} {h : zH} {Q : Option Value → zH → Prop} {x y : Int64} (pc' : Nat) (hd : decode M.2.1 pc = .ok (.lor, 1)) (hn : pc + 1 = pc') (K : zV G d M kc ks pc' ls (.long (x ||| y) :: st) h Q) : zV G d M kc ks pc ls (.long y :: .long x :: st) h Q := by
  subst hn
  intro p l e R s m args below meth c H locs cells slots la X hA hS hc hs hl
  exact lv_lor X.1 X.2.1 hd (K p l e R s m args below meth c H locs cells slots la X hA hS hc hs hl)
theorem zLdiv {G : zG} {d kc ks pc : Nat} {M : zM} {ls : List (Nat × Value)} {st : List Value} {h : zH} {Q : Option Value → zH → Prop} {x y : Int64} (pc' : Nat) (hd : decode M.2.1 pc = .ok (.ldiv, 1)) (hn : pc + 1 = pc') (hne : ¬ y = 0) (K : zV G d M kc ks pc' ls (.long (x / y) :: st) h Q) : zV G d M kc ks pc ls (.long y :: .long x :: st) h Q := by
  subst hn
  intro p l e R s m args below meth c H locs cells slots la X hA hS hc hs hl
  exact lv_ldiv X.1 X.2.1 hd hne (K p l e R s m args below meth c H locs cells slots la X hA hS hc hs hl)
theorem zLrem {G : zG} {d kc ks pc : Nat} {M : zM} {ls : List (Nat × Value)} {st : List Value} {h : zH} {Q : Option Value → zH → Prop} {x y : Int64} (pc' : Nat) (hd : decode M.2.1 pc = .ok (.lrem, 1)) (hn : pc + 1 = pc') (hne : ¬ y = 0) (K : zV G d M kc ks pc' ls (.long (x - x / y * y) :: st) h Q) : zV G d M kc ks pc ls (.long y :: .long x :: st) h Q := by
  subst hn
  intro p l e R s m args below meth c H locs cells slots la X hA hS hc hs hl
  exact lv_lrem X.1 X.2.1 hd hne (K p l e R s m args below meth c H locs cells slots la X hA hS hc hs hl)
theorem zIushr {G : zG} {d kc ks pc : Nat} {M : zM} {ls : List (Nat × Value)} {st : List Value} {h : zH} {Q : Option Value → zH → Prop} {x y : Int32} (pc' : Nat) (hd : decode M.2.1 pc = .ok (.iushr, 1)) (hn : pc + 1 = pc') (K : zV G d M kc ks pc' ls (.int (x.toUInt32 >>> (y.toUInt32 &&& Int32.toUInt32 31)).toInt32 :: st) h Q) : zV G d M kc ks pc ls (.int y :: .int x :: st) h Q := by
  subst hn
  intro p l e R s m args below meth c H locs cells slots la X hA hS hc hs hl
  exact lv_iushr X.1 X.2.1 hd rfl (K p l e R s m args below meth c H locs cells slots la X hA hS hc hs hl)
theorem zLushr {G : zG} {d kc ks pc : Nat} {M : zM} {ls : List (Nat × Value)} {st : List Value} {h : zH} {Q : Option Value → zH → Prop} {x : Int64} {y : Int32} (pc' : Nat) (hd : decode M.2.1 pc = .ok (.lushr, 1)) (hn : pc + 1 = pc') (K : zV G d M kc ks pc' ls (.long (x.toUInt64 >>> (y.toInt64.toUInt64 &&& Int64.toUInt64 63)).toInt64 :: st) h Q) : zV G d M kc ks pc ls (.int y :: .long x :: st) h Q := by
  subst hn
  intro p l e R s m args below meth c H locs cells slots la X hA hS hc hs hl
  exact lv_lushr X.1 X.2.1 hd rfl (K p l e R s m args below meth c H locs cells slots la X hA hS hc hs hl)
theorem zLshl {G : zG} {d kc ks pc : Nat} {M : zM} {ls : List (Nat × Value)} {st : List Value} {h : zH} {Q : Option Value → zH → Prop} {x : Int64} {y : Int32} (pc' : Nat) (hd : decode M.2.1 pc = .ok (.lshl, 1)) (hn : pc + 1 = pc') (K : zV G d M kc ks pc' ls (.long (x <<< (y.toInt64 &&& 63)) :: st) h Q) : zV G d M kc ks pc ls (.int y :: .long x :: st) h Q := by
  subst hn
  intro p l e R s m args below meth c H locs cells slots la X hA hS hc hs hl
  exact lv_lshl X.1 X.2.1 hd rfl (K p l e R s m args below meth c H locs cells slots la X hA hS hc hs hl)
theorem zI2l {G : zG} {d kc ks pc : Nat} {M : zM} {ls : List (Nat × Value)} {st : List Value} {h : zH} {Q : Option Value → zH → Prop} {x : Int32} (pc' : Nat) (hd : decode M.2.1 pc = .ok (.i2l, 1)) (hn : pc + 1 = pc') (K : zV G d M kc ks pc' ls (.long x.toInt64 :: st) h Q) : zV G d M kc ks pc ls (.int x :: st) h Q := by
  subst hn
  intro p l e R s m args below meth c H locs cells slots la X hA hS hc hs hl
  exact lv_i2l X.1 X.2.1 hd rfl (K p l e R s m args below meth c H locs cells slots la X hA hS hc hs hl)
theorem zL2i {G : zG} {d kc ks pc : Nat} {M : zM} {ls : List (Nat × Value)} {st : List Value} {h : zH} {Q : Option Value → zH → Prop} {x : Int64} (pc' : Nat) (hd : decode M.2.1 pc = .ok (.l2i, 1)) (hn : pc + 1 = pc') (K : zV G d M kc ks pc' ls (.int x.toInt32 :: st) h Q) : zV G d M kc ks pc ls (.long x :: st) h Q := by
  subst hn
  intro p l e R s m args below meth c H locs cells slots la X hA hS hc hs hl
  exact lv_l2i X.1 X.2.1 hd rfl (K p l e R s m args below meth c H locs cells slots la X hA hS hc hs hl)
theorem zI2b {G : zG} {d kc ks pc : Nat} {M : zM} {ls : List (Nat × Value)} {st : List Value} {h : zH} {Q : Option Value → zH → Prop} {x : Int32} (pc' : Nat) (hd : decode M.2.1 pc = .ok (.i2b, 1)) (hn : pc + 1 = pc') (K : zV G d M kc ks pc' ls (.int x.toInt8.toInt32 :: st) h Q) : zV G d M kc ks pc ls (.int x :: st) h Q := by
  subst hn
  intro p l e R s m args below meth c H locs cells slots la X hA hS hc hs hl
  exact lv_i2b X.1 X.2.1 hd rfl (K p l e R s m args below meth c H locs cells slots la X hA hS hc hs hl)
theorem zI2c {G : zG} {d kc ks pc : Nat} {M : zM} {ls : List (Nat × Value)} {st : List Value} {h : zH} {Q : Option Value → zH → Prop} {x : Int32} (pc' : Nat) (hd : decode M.2.1 pc = .ok (.i2c, 1)) (hn : pc + 1 = pc') (K : zV G d M kc ks pc' ls (.int (x.toUInt32 % 65536).toInt32 :: st) h Q) : zV G d M kc ks pc ls (.int x :: st) h Q := by
  subst hn
  intro p l e R s m args below meth c H locs cells slots la X hA hS hc hs hl
  exact lv_i2c X.1 X.2.1 hd rfl (K p l e R s m args below meth c H locs cells slots la X hA hS hc hs hl)
theorem zLcmp {G : zG} {d kc ks pc : Nat} {M : zM} {ls : List (Nat × Value)} {st : List Value} {h : zH} {Q : Option Value → zH → Prop} {x y : Int64} (pc' : Nat) (hd : decode M.2.1 pc = .ok (.lcmp, 1)) (hn : pc + 1 = pc') (K : zV G d M kc ks pc' ls (.int (lg_cmp x y) :: st) h Q) : zV G d M kc ks pc ls (.long y :: .long x :: st) h Q := by
  subst hn
  intro p l e R s m args below meth c H locs cells slots la X hA hS hc hs hl
  exact W.lcmp X.1 X.2.1 hd (K p l e R s m args below meth c H locs cells slots la X hA hS hc hs hl)
theorem zDup {G : zG} {d kc ks pc : Nat} {M : zM} {ls : List (Nat × Value)} {st : List Value} {h : zH} {Q : Option Value → zH → Prop} {a : Value} (pc' : Nat) (hd : decode M.2.1 pc = .ok (.dup, 1)) (hn : pc + 1 = pc') (ha : a.category = 1) (K : zV G d M kc ks pc' ls (a :: a :: st) h Q) : zV G d M kc ks pc ls (a :: st) h Q := by
  subst hn
  intro p l e R s m args below meth c H locs cells slots la X hA hS hc hs hl
  exact lv_dup X.1 X.2.1 hd ha (K p l e R s m args below meth c H locs cells slots la X hA hS hc hs hl)
theorem zPop {G : zG} {d kc ks pc : Nat} {M : zM} {ls : List (Nat × Value)} {st : List Value} {h : zH} {Q : Option Value → zH → Prop} {a : Value} (pc' : Nat) (hd : decode M.2.1 pc = .ok (.pop, 1)) (hn : pc + 1 = pc') (ha : a.category = 1) (K : zV G d M kc ks pc' ls st h Q) : zV G d M kc ks pc ls (a :: st) h Q := by
  subst hn
  intro p l e R s m args below meth c H locs cells slots la X hA hS hc hs hl
  exact lv_pop X.1 X.2.1 hd ha (K p l e R s m args below meth c H locs cells slots la X hA hS hc hs hl)
theorem zDup_x1 {G : zG} {d kc ks pc : Nat} {M : zM} {ls : List (Nat × Value)} {st : List Value} {h : zH} {Q : Option Value → zH → Prop} {a b : Value} (pc' : Nat) (hd : decode M.2.1 pc = .ok (.dup_x1, 1)) (hn : pc + 1 = pc') (ha : a.category = 1) (hb : b.category = 1) (K : zV G d M kc ks pc' ls (a :: b :: a :: st) h Q) : zV G d M kc ks pc ls (a :: b :: st) h Q := by
  subst hn
  intro p l e R s m args below meth c H locs cells slots la X hA hS hc hs hl
  exact lv_dup_x1 X.1 X.2.1 hd ha hb (K p l e R s m args below meth c H locs cells slots la X hA hS hc hs hl)
theorem zDup2 {G : zG} {d kc ks pc : Nat} {M : zM} {ls : List (Nat × Value)} {st : List Value} {h : zH} {Q : Option Value → zH → Prop} {a b : Value} (pc' : Nat) (hd : decode M.2.1 pc = .ok (.dup2, 1)) (hn : pc + 1 = pc') (ha : a.category = 1) (hb : b.category = 1) (K : zV G d M kc ks pc' ls (a :: b :: a :: b :: st) h Q) : zV G d M kc ks pc ls (a :: b :: st) h Q := by
  subst hn
  intro p l e R s m args below meth c H locs cells slots la X hA hS hc hs hl
  exact lv_dup2_11 X.1 X.2.1 hd ha hb (K p l e R s m args below meth c H locs cells slots la X hA hS hc hs hl)
theorem zIf_eq {G : zG} {d kc ks pc : Nat} {M : zM} {ls : List (Nat × Value)} {st : List Value} {h : zH} {Q : Option Value → zH → Prop} {x : Int32} (off : Int) (tgt pc' : Nat) (hd : decode M.2.1 pc = .ok (.ifCond .eq off, 3)) (hn : pc + 3 = pc') (ht : (pc : Int) + off = (tgt : Int)) (K : (x = 0 → zV G d M kc ks tgt ls st h Q) ∧ (¬ x = 0 → zV G d M kc ks pc' ls st h Q)) : zV G d M kc ks pc ls (.int x :: st) h Q := by
  subst hn
  intro p l e R s m args below meth c H locs cells slots la X hA hS hc hs hl
  exact lv_if_eq X.1 X.2.1 hd ht (fun q => K.1 q p l e R s m args below meth c H locs cells slots la X hA hS hc hs hl) (fun q => K.2 q p l e R s m args below meth c H locs cells slots la X hA hS hc hs hl)
theorem zIcmp_eq {G : zG} {d kc ks pc : Nat} {M : zM} {ls : List (Nat × Value)} {st : List Value} {h : zH} {Q : Option Value → zH → Prop} {x y : Int32} (off : Int) (tgt pc' : Nat) (hd : decode M.2.1 pc = .ok (.if_icmp .eq off, 3)) (hn : pc + 3 = pc') (ht : (pc : Int) + off = (tgt : Int)) (K : (x = y → zV G d M kc ks tgt ls st h Q) ∧ (¬ x = y → zV G d M kc ks pc' ls st h Q)) : zV G d M kc ks pc ls (.int y :: .int x :: st) h Q := by
  subst hn
  intro p l e R s m args below meth c H locs cells slots la X hA hS hc hs hl
  exact lv_icmp_eq X.1 X.2.1 hd ht (fun q => K.1 q p l e R s m args below meth c H locs cells slots la X hA hS hc hs hl) (fun q => K.2 q p l e R s m args below meth c H locs cells slots la X hA hS hc hs hl)
theorem zIf_ne {G : zG} {d kc ks pc : Nat} {M : zM} {ls : List (Nat × Value)} {st : List Value} {h : zH} {Q : Option Value → zH → Prop} {x : Int32} (off : Int) (tgt pc' : Nat) (hd : decode M.2.1 pc = .ok (.ifCond .ne off, 3)) (hn : pc + 3 = pc') (ht : (pc : Int) + off = (tgt : Int)) (K : (¬ x = 0 → zV G d M kc ks tgt ls st h Q) ∧ (x = 0 → zV G d M kc ks pc' ls st h Q)) : zV G d M kc ks pc ls (.int x :: st) h Q := by
  subst hn
  intro p l e R s m args below meth c H locs cells slots la X hA hS hc hs hl
  exact lv_if_ne X.1 X.2.1 hd ht (fun q => K.1 q p l e R s m args below meth c H locs cells slots la X hA hS hc hs hl) (fun q => K.2 q p l e R s m args below meth c H locs cells slots la X hA hS hc hs hl)
theorem zIcmp_ne {G : zG} {d kc ks pc : Nat} {M : zM} {ls : List (Nat × Value)} {st : List Value} {h : zH} {Q : Option Value → zH → Prop} {x y : Int32} (off : Int) (tgt pc' : Nat) (hd : decode M.2.1 pc = .ok (.if_icmp .ne off, 3)) (hn : pc + 3 = pc') (ht : (pc : Int) + off = (tgt : Int)) (K : (¬ x = y → zV G d M kc ks tgt ls st h Q) ∧ (x = y → zV G d M kc ks pc' ls st h Q)) : zV G d M kc ks pc ls (.int y :: .int x :: st) h Q := by
  subst hn
  intro p l e R s m args below meth c H locs cells slots la X hA hS hc hs hl
  exact lv_icmp_ne X.1 X.2.1 hd ht (fun q => K.1 q p l e R s m args below meth c H locs cells slots la X hA hS hc hs hl) (fun q => K.2 q p l e R s m args below meth c H locs cells slots la X hA hS hc hs hl)
theorem zIf_lt {G : zG} {d kc ks pc : Nat} {M : zM} {ls : List (Nat × Value)} {st : List Value} {h : zH} {Q : Option Value → zH → Prop} {x : Int32} (off : Int) (tgt pc' : Nat) (hd : decode M.2.1 pc = .ok (.ifCond .lt off, 3)) (hn : pc + 3 = pc') (ht : (pc : Int) + off = (tgt : Int)) (K : (x < 0 → zV G d M kc ks tgt ls st h Q) ∧ (¬ x < 0 → zV G d M kc ks pc' ls st h Q)) : zV G d M kc ks pc ls (.int x :: st) h Q := by
  subst hn
  intro p l e R s m args below meth c H locs cells slots la X hA hS hc hs hl
  exact lv_if_lt X.1 X.2.1 hd ht (fun q => K.1 q p l e R s m args below meth c H locs cells slots la X hA hS hc hs hl) (fun q => K.2 q p l e R s m args below meth c H locs cells slots la X hA hS hc hs hl)
theorem zIcmp_lt {G : zG} {d kc ks pc : Nat} {M : zM} {ls : List (Nat × Value)} {st : List Value} {h : zH} {Q : Option Value → zH → Prop} {x y : Int32} (off : Int) (tgt pc' : Nat) (hd : decode M.2.1 pc = .ok (.if_icmp .lt off, 3)) (hn : pc + 3 = pc') (ht : (pc : Int) + off = (tgt : Int)) (K : (x < y → zV G d M kc ks tgt ls st h Q) ∧ (¬ x < y → zV G d M kc ks pc' ls st h Q)) : zV G d M kc ks pc ls (.int y :: .int x :: st) h Q := by
  subst hn
  intro p l e R s m args below meth c H locs cells slots la X hA hS hc hs hl
  exact lv_icmp_lt X.1 X.2.1 hd ht (fun q => K.1 q p l e R s m args below meth c H locs cells slots la X hA hS hc hs hl) (fun q => K.2 q p l e R s m args below meth c H locs cells slots la X hA hS hc hs hl)
theorem zIf_ge {G : zG} {d kc ks pc : Nat} {M : zM} {ls : List (Nat × Value)} {st : List Value} {h : zH} {Q : Option Value → zH → Prop} {x : Int32} (off : Int) (tgt pc' : Nat) (hd : decode M.2.1 pc = .ok (.ifCond .ge off, 3)) (hn : pc + 3 = pc') (ht : (pc : Int) + off = (tgt : Int)) (K : (0 ≤ x → zV G d M kc ks tgt ls st h Q) ∧ (¬ 0 ≤ x → zV G d M kc ks pc' ls st h Q)) : zV G d M kc ks pc ls (.int x :: st) h Q := by
  subst hn
  intro p l e R s m args below meth c H locs cells slots la X hA hS hc hs hl
  exact lv_if_ge X.1 X.2.1 hd ht (fun q => K.1 q p l e R s m args below meth c H locs cells slots la X hA hS hc hs hl) (fun q => K.2 q p l e R s m args below meth c H locs cells slots la X hA hS hc hs hl)
theorem zIcmp_ge {G : zG} {d kc ks pc : Nat} {M : zM} {ls : List (Nat × Value)} {st : List Value} {h : zH} {Q : Option Value → zH → Prop} {x y : Int32} (off : Int) (tgt pc' : Nat) (hd : decode M.2.1 pc = .ok (.if_icmp .ge off, 3)) (hn : pc + 3 = pc') (ht : (pc : Int) + off = (tgt : Int)) (K : (y ≤ x → zV G d M kc ks tgt ls st h Q) ∧ (¬ y ≤ x → zV G d M kc ks pc' ls st h Q)) : zV G d M kc ks pc ls (.int y :: .int x :: st) h Q := by
  subst hn
  intro p l e R s m args below meth c H locs cells slots la X hA hS hc hs hl
  exact lv_icmp_ge X.1 X.2.1 hd ht (fun q => K.1 q p l e R s m args below meth c H locs cells slots la X hA hS hc hs hl) (fun q => K.2 q p l e R s m args below meth c H locs cells slots la X hA hS hc hs hl)
theorem zIf_gt {G : zG} {d kc ks pc : Nat} {M : zM} {ls : List (Nat × Value)} {st : List Value} {h : zH} {Q : Option Value → zH → Prop} {x : Int32} (off : Int) (tgt pc' : Nat) (hd : decode M.2.1 pc = .ok (.ifCond .gt off, 3)) (hn : pc + 3 = pc') (ht : (pc : Int) + off = (tgt : Int)) (K : (0 < x → zV G d M kc ks tgt ls st h Q) ∧ (¬ 0 < x → zV G d M kc ks pc' ls st h Q)) : zV G d M kc ks pc ls (.int x :: st) h Q := by
  subst hn
  intro p l e R s m args below meth c H locs cells slots la X hA hS hc hs hl
  exact lv_if_gt X.1 X.2.1 hd ht (fun q => K.1 q p l e R s m args below meth c H locs cells slots la X hA hS hc hs hl) (fun q => K.2 q p l e R s m args below meth c H locs cells slots la X hA hS hc hs hl)
theorem zIcmp_gt {G : zG} {d kc ks pc : Nat} {M : zM} {ls : List (Nat × Value)} {st : List Value} {h : zH} {Q : Option Value → zH → Prop} {x y : Int32} (off : Int) (tgt pc' : Nat) (hd : decode M.2.1 pc = .ok (.if_icmp .gt off, 3)) (hn : pc + 3 = pc') (ht : (pc : Int) + off = (tgt : Int)) (K : (y < x → zV G d M kc ks tgt ls st h Q) ∧ (¬ y < x → zV G d M kc ks pc' ls st h Q)) : zV G d M kc ks pc ls (.int y :: .int x :: st) h Q := by
  subst hn
  intro p l e R s m args below meth c H locs cells slots la X hA hS hc hs hl
  exact lv_icmp_gt X.1 X.2.1 hd ht (fun q => K.1 q p l e R s m args below meth c H locs cells slots la X hA hS hc hs hl) (fun q => K.2 q p l e R s m args below meth c H locs cells slots la X hA hS hc hs hl)
theorem zIf_le {G : zG} {d kc ks pc : Nat} {M : zM} {ls : List (Nat × Value)} {st : List Value} {h : zH} {Q : Option Value → zH → Prop} {x : Int32} (off : Int) (tgt pc' : Nat) (hd : decode M.2.1 pc = .ok (.ifCond .le off, 3)) (hn : pc + 3 = pc') (ht : (pc : Int) + off = (tgt : Int)) (K : (x ≤ 0 → zV G d M kc ks tgt ls st h Q) ∧ (¬ x ≤ 0 → zV G d M kc ks pc' ls st h Q)) : zV G d M kc ks pc ls (.int x :: st) h Q := by
  subst hn
  intro p l e R s m args below meth c H locs cells slots la X hA hS hc hs hl
  exact lv_if_le X.1 X.2.1 hd ht (fun q => K.1 q p l e R s m args below meth c H locs cells slots la X hA hS hc hs hl) (fun q => K.2 q p l e R s m args below meth c H locs cells slots la X hA hS hc hs hl)
theorem zIcmp_le {G : zG} {d kc ks pc : Nat} {M : zM} {ls : List (Nat × Value)} {st : List Value} {h : zH} {Q : Option Value → zH → Prop} {x y : Int32} (off : Int) (tgt pc' : Nat) (hd : decode M.2.1 pc = .ok (.if_icmp .le off, 3)) (hn : pc + 3 = pc') (ht : (pc : Int) + off = (tgt : Int)) (K : (x ≤ y → zV G d M kc ks tgt ls st h Q) ∧ (¬ x ≤ y → zV G d M kc ks pc' ls st h Q)) : zV G d M kc ks pc ls (.int y :: .int x :: st) h Q := by
  subst hn
  intro p l e R s m args below meth c H locs cells slots la X hA hS hc hs hl
  exact lv_icmp_le X.1 X.2.1 hd ht (fun q => K.1 q p l e R s m args below meth c H locs cells slots la X hA hS hc hs hl) (fun q => K.2 q p l e R s m args below meth c H locs cells slots la X hA hS hc hs hl)
theorem zGoto {G : zG} {d kc ks pc : Nat} {M : zM} {ls : List (Nat × Value)} {st : List Value} {h : zH} {Q : Option Value → zH → Prop} (off : Int) (tgt : Nat) (hd : decode M.2.1 pc = .ok (.goto off, 3)) (ht : (pc : Int) + off = (tgt : Int)) (K : zV G d M kc ks tgt ls st h Q) : zV G d M kc ks pc ls st h Q := by
  intro p l e R s m args below meth c H locs cells slots la X hA hS hc hs hl
  exact lv_goto X.1 X.2.1 hd ht (K p l e R s m args below meth c H locs cells slots la X hA hS hc hs hl)
theorem zIfnull {G : zG} {d kc ks pc : Nat} {M : zM} {ls : List (Nat × Value)} {st : List Value} {h : zH} {Q : Option Value → zH → Prop} {r : Option Nat} (off : Int) (tgt pc' : Nat) (hd : decode M.2.1 pc = .ok (.ifnull off, 3)) (hn : pc + 3 = pc') (ht : (pc : Int) + off = (tgt : Int)) (K : (r = none → zV G d M kc ks tgt ls st h Q) ∧ (∀ b, r = some b → zV G d M kc ks pc' ls st h Q)) : zV G d M kc ks pc ls (va_rf r :: st) h Q := by
  subst hn
  intro p l e R s m args below meth c H locs cells slots la X hA hS hc hs hl
  cases r with
  | none => exact lv_ifnullN X.1 X.2.1 hd ht (K.1 rfl p l e R s m args below meth c H locs cells slots la X hA hS hc hs hl)
  | some b => exact lv_ifnull X.1 X.2.1 hd (K.2 b rfl p l e R s m args below meth c H locs cells slots la X hA hS hc hs hl)
theorem zTableOut {G : zG} {d kc ks pc : Nat} {M : zM} {ls : List (Nat × Value)} {st : List Value} {h : zH} {Q : Option Value → zH → Prop} {x : Int32} (dflt lo hi : Int) (offs : Array Int) (len tgt : Nat) (hd : decode M.2.1 pc = .ok (.tableswitch dflt lo hi offs, len)) (ho : x.toInt < lo ∨ hi < x.toInt) (ht : (pc : Int) + dflt = (tgt : Int)) (K : zV G d M kc ks tgt ls st h Q) : zV G d M kc ks pc ls (.int x :: st) h Q := by
  intro p l e R s m args below meth c H locs cells slots la X hA hS hc hs hl
  exact lv_tableOut X.1 X.2.1 hd ho ht (K p l e R s m args below meth c H locs cells slots la X hA hS hc hs hl)
theorem zTableIn {G : zG} {d kc ks pc : Nat} {M : zM} {ls : List (Nat × Value)} {st : List Value} {h : zH} {Q : Option Value → zH → Prop} {x : Int32} (dflt lo hi : Int) (offs : Array Int) (len : Nat) (off : Int) (tgt : Nat) (hd : decode M.2.1 pc = .ok (.tableswitch dflt lo hi offs, len)) (h1 : ¬ x.toInt < lo) (h2 : ¬ hi < x.toInt) (ho : offs[(x.toInt - lo).toNat]? = some off) (ht : (pc : Int) + off = (tgt : Int)) (K : zV G d M kc ks tgt ls st h Q) : zV G d M kc ks pc ls (.int x :: st) h Q := by
  intro p l e R s m args below meth c H locs cells slots la X hA hS hc hs hl
  exact lv_tableIn X.1 X.2.1 hd h1 h2 ho ht (K p l e R s m args below meth c H locs cells slots la X hA hS hc hs hl)
theorem zLookup {G : zG} {d kc ks pc : Nat} {M : zM} {ls : List (Nat × Value)} {st : List Value} {h : zH} {Q : Option Value → zH → Prop} {x : Int32} (dflt : Int) (ps : Array (Int × Int)) (len : Nat) (off : Int) (tgt : Nat) (hd : decode M.2.1 pc = .ok (.lookupswitch dflt ps, len)) (hp : (ps.toList.zip (ps.toList.drop 1)).all (fun (a, next) => a.1 < next.1) = true) (ho : Op.lookupswitch.offset ps.toList dflt x.toInt = off) (ht : (pc : Int) + off = (tgt : Int)) (K : zV G d M kc ks tgt ls st h Q) : zV G d M kc ks pc ls (.int x :: st) h Q := by
  intro p l e R s m args below meth c H locs cells slots la X hA hS hc hs hl
  exact lv_lookup X.1 X.2.1 hd hp ho ht (K p l e R s m args below meth c H locs cells slots la X hA hS hc hs hl)
theorem zLdc {G : zG} {d kc ks pc : Nat} {M : zM} {ls : List (Nat × Value)} {st : List Value} {h : zH} {Q : Option Value → zH → Prop} (i : Nat) (v : Int32) (pc' : Nat) (hd : decode M.2.1 pc = .ok (.ldc i, 2)) (hn : pc + 2 = pc') (hw : Cond.constant M.1.cls i v ∈ lw_tbl) (K : zV G d M kc ks pc' ls (.int v :: st) h Q) : zV G d M kc ks pc ls st h Q := by
  subst hn
  intro p l e R s m args below meth c H locs cells slots la X hA hS hc hs hl
  exact lv_ldc X.1 X.2.1 X.2.2.2.2.2.1 (X.2.2.2.2.2.2.2.1.1 _ _ hw rfl) hd (K p l e R s m args below meth c H locs cells slots la X hA hS hc hs hl)
theorem zLdcw {G : zG} {d kc ks pc : Nat} {M : zM} {ls : List (Nat × Value)} {st : List Value} {h : zH} {Q : Option Value → zH → Prop} (i : Nat) (v : Int32) (pc' : Nat) (hd : decode M.2.1 pc = .ok (.ldc_w i, 3)) (hn : pc + 3 = pc') (hw : Cond.constant M.1.cls i v ∈ lw_tbl) (K : zV G d M kc ks pc' ls (.int v :: st) h Q) : zV G d M kc ks pc ls st h Q := by
  subst hn
  intro p l e R s m args below meth c H locs cells slots la X hA hS hc hs hl
  exact lv_ldcw X.1 X.2.1 X.2.2.2.2.2.1 (X.2.2.2.2.2.2.2.1.1 _ _ hw rfl) hd (K p l e R s m args below meth c H locs cells slots la X hA hS hc hs hl)
theorem zLdc2 {G : zG} {d kc ks pc : Nat} {M : zM} {ls : List (Nat × Value)} {st : List Value} {h : zH} {Q : Option Value → zH → Prop} (i : Nat) (v : Int64) (pc' : Nat) (hd : decode M.2.1 pc = .ok (.ldc2_w i, 3)) (hn : pc + 3 = pc') (hw : Cond.constantLong M.1.cls i v ∈ lw_tbl) (K : zV G d M kc ks pc' ls (.long v :: st) h Q) : zV G d M kc ks pc ls st h Q := by
  subst hn
  intro p l e R s m args below meth c H locs cells slots la X hA hS hc hs hl
  exact lv_ldc2 X.1 X.2.1 X.2.2.2.2.2.1 (X.2.2.2.2.2.2.2.1.1 _ _ hw rfl) hd (K p l e R s m args below meth c H locs cells slots la X hA hS hc hs hl)
theorem zLdcS {G : zG} {d kc ks pc : Nat} {M : zM} {ls : List (Nat × Value)} {st : List Value} {h : zH} {Q : Option Value → zH → Prop} (i : Nat) (tx : String) (q : Nat) (pc' : Nat) (hd : decode M.2.1 pc = .ok (.ldc i, 2)) (hn : pc + 2 = pc') (hw : (M.1.cls, i, tx, q) ∈ zStrR) (K : zV G d M kc ks pc' ls (.ref (G.2.2.2.1 q) :: st) h Q) : zV G d M kc ks pc ls st h Q := by
  subst hn
  intro p l e R s m args below meth c H locs cells slots la X hA hS hc hs hl
  exact va_ldcS X.1 X.2.1 X.2.2.2.2.2.1 (X.2.2.2.2.2.2.2.1.2.2.1.2.2.1 (M.1.cls, i, tx, q) hw) hd (K p l e R s m args below meth c H locs cells slots la X hA hS hc hs hl)
theorem zIret {G : zG} {d kc ks pc : Nat} {M : zM} {ls : List (Nat × Value)} {h : zH} {Q : Option Value → zH → Prop} {v : Int32} (hr : M.2.2.2 = some .int) (hd : decode M.2.1 pc = .ok (.ireturn, 1)) (K : Q (some (.int v)) h) : zV G d M kc ks pc ls [.int v] h Q := by
  intro p l e R s m args below meth c H locs cells slots la X hA hS hc hs hl
  refine W.widen (k := R.cells) (n := R.slots) (by omega) (by omega) ?_
  exact W.iret (v := v) X.1 X.2.1 (X.2.2.2.1.trans hr) (fun t ht hW => ⟨⟨(some (.int v)), h, rfl, K, by rw [ht]; exact hA⟩, hS.F ht⟩) hS.2.2 hd X.2.2.2.2.1
theorem zZret {G : zG} {d kc ks pc : Nat} {M : zM} {ls : List (Nat × Value)} {h : zH} {Q : Option Value → zH → Prop} {v : Int32} (ty : FieldType) (hr : M.2.2.2 = some ty) (hv : narrow ty (.int v) = .int v) (hd : decode M.2.1 pc = .ok (.ireturn, 1)) (K : Q (some (.int v)) h) : zV G d M kc ks pc ls [.int v] h Q := by
  intro p l e R s m args below meth c H locs cells slots la X hA hS hc hs hl
  refine W.widen (k := R.cells) (n := R.slots) (by omega) (by omega) ?_
  exact W.zret (v := v) X.1 X.2.1 (X.2.2.2.1.trans hr) hv (fun t ht hW => ⟨⟨(some (.int v)), h, rfl, K, by rw [ht]; exact hA⟩, hS.F ht⟩) hS.2.2 hd X.2.2.2.2.1
theorem zLret {G : zG} {d kc ks pc : Nat} {M : zM} {ls : List (Nat × Value)} {h : zH} {Q : Option Value → zH → Prop} {v : Int64} (hr : M.2.2.2 = some .long) (hd : decode M.2.1 pc = .ok (.lreturn, 1)) (K : Q (some (.long v)) h) : zV G d M kc ks pc ls [.long v] h Q := by
  intro p l e R s m args below meth c H locs cells slots la X hA hS hc hs hl
  refine W.widen (k := R.cells) (n := R.slots) (by omega) (by omega) ?_
  exact W.lret (v := v) X.1 X.2.1 (X.2.2.2.1.trans hr) (fun t ht hW => ⟨⟨(some (.long v)), h, rfl, K, by rw [ht]; exact hA⟩, hS.F ht⟩) hS.2.2 hd X.2.2.2.2.1
theorem zVret {G : zG} {d kc ks pc : Nat} {M : zM} {ls : List (Nat × Value)} {h : zH} {Q : Option Value → zH → Prop} (hr : M.2.2.2 = none) (hd : decode M.2.1 pc = .ok (.return_, 1)) (K : Q none h) : zV G d M kc ks pc ls [] h Q := by
  intro p l e R s m args below meth c H locs cells slots la X hA hS hc hs hl
  refine W.widen (k := R.cells) (n := R.slots) (by omega) (by omega) ?_
  exact W.vret X.1 X.2.1 (X.2.2.2.1.trans hr) (fun t ht hW => ⟨⟨none, h, rfl, K, by rw [ht]; exact hA⟩, hS.F ht⟩) hS.2.2 hd X.2.2.2.2.1
theorem zAret {G : zG} {d kc ks pc : Nat} {M : zM} {ls : List (Nat × Value)} {h : zH} {Q : Option Value → zH → Prop} {v : Nat} (ty : FieldType) (hr : M.2.2.2 = some ty) (hrt : (∃ n, ty = .object n) ∨ ∃ t, ty = .array t) (hd : decode M.2.1 pc = .ok (.areturn, 1)) (K : Q (some (.ref v)) h) : zV G d M kc ks pc ls [.ref v] h Q := by
  intro p l e R s m args below meth c H locs cells slots la X hA hS hc hs hl
  refine W.widen (k := R.cells) (n := R.slots) (by omega) (by omega) ?_
  exact W.aret (v := .ref v) X.1 X.2.1 (X.2.2.2.1.trans hr) hrt (Or.inr ⟨v, rfl⟩) (fun t ht hW => ⟨⟨(some (.ref v)), h, rfl, K, by rw [ht]; exact hA⟩, hS.F ht⟩) hS.2.2 hd X.2.2.2.2.1
/-- a contract out of the walk of a body -/
theorem zC.of {G : zG} {d kc ks : Nat} {M : zM} {vs : List Value} {h : zH} {Q : Option Value → zH → Prop} (hy : plainName M.1.cls = true) (hn : (lg_sl vs).length ≤ M.2.2.1) (K : zV G d M kc ks 0 (lv_args 0 vs) [] h Q) : zC G d M kc ks vs h Q := by
  intro l hfl
  refine Met.ofW (cc := M.2.1) (maxL := M.2.2.1) (ret := M.2.2.2) hy rfl ?_
  intro p e s m args below meth c s₁ B hml hv
  obtain ⟨rfl, hst, hat⟩ := hv
  have hl := lv_entry vs (n := M.2.2.1) hn
  rw [lg_entry_eq]
  refine K p l e _ s m _ below meth c s.heap [] 0 0 _ ⟨B.exec, B.bytes, hml, B.returns, B.notSynchronized, findClass_of_methodNamed B.named, (name_of_methodNamed B.named B.method).1, hst, Nat.le_refl _, Nat.le_refl _, hfl⟩ hat va_S.rf (Nat.zero_add _) (Nat.zero_add _) hl
