/-! ===== rows: an instruction each ===== -/
theorem un_int (x : Int32) : Value.int x ≠ un := fun h => nomatch h
theorem un_ref (x : Nat) : Value.ref x ≠ un := fun h => nomatch h
theorem un_null : Value.null ≠ un := fun h => nomatch h
theorem good_mem {w : Cond} (h : w ∈ lw_good) : goodWord w = true := (List.mem_filter.mp h).2
theorem good_in {ws : List Cond} (h : ∀ w ∈ ws, w ∈ lw_good) : GoodIn lw_good ws := fun w hw => ⟨h w hw, good_of_word (good_mem (h w hw))⟩
section EVR
variable {G : Gx} {r : Mr} {pc : Nat} {L st : List Value} {h : Hp} {cs ss : Nat} {Post : Res → Hp → Prop}
theorem ev_iload {i : Nat} {x : Int32} (hd : decode r.2.1 pc = .ok (.iload i, 2)) (hL : L[i]? = some (.int x)) (k : Ev G r (pc + 2) L (.int x :: st) h cs ss Post) : Ev G r pc L st h cs ss Post :=
  fun p e s m args below meth c ls H locs F hl hR hS h1 h2 => lv_iload F.1 F.2.1 hd (hl.get hL (un_int x)) (k p e s m args below meth c ls H locs F hl hR hS h1 h2)
theorem ev_iloadn {i : Nat} {x : Int32} {j : Fin 4} (hj : (j : Nat) = i) (hd : decode r.2.1 pc = .ok (.iload_n j, 1)) (hL : L[i]? = some (.int x)) (k : Ev G r (pc + 1) L (.int x :: st) h cs ss Post) : Ev G r pc L st h cs ss Post :=
  fun p e s m args below meth c ls H locs F hl hR hS h1 h2 => lv_iload_n F.1 F.2.1 hd hj (hl.get hL (un_int x)) (k p e s m args below meth c ls H locs F hl hR hS h1 h2)
theorem ev_aload {i : Nat} {x : Nat} (hd : decode r.2.1 pc = .ok (.aload i, 2)) (hL : L[i]? = some (.ref x)) (k : Ev G r (pc + 2) L (.ref x :: st) h cs ss Post) : Ev G r pc L st h cs ss Post :=
  fun p e s m args below meth c ls H locs F hl hR hS h1 h2 => lv_aload F.1 F.2.1 hd (hl.get hL (un_ref x)) (k p e s m args below meth c ls H locs F hl hR hS h1 h2)
theorem ev_aloadn {i : Nat} {x : Nat} {j : Fin 4} (hj : (j : Nat) = i) (hd : decode r.2.1 pc = .ok (.aload_n j, 1)) (hL : L[i]? = some (.ref x)) (k : Ev G r (pc + 1) L (.ref x :: st) h cs ss Post) : Ev G r pc L st h cs ss Post :=
  fun p e s m args below meth c ls H locs F hl hR hS h1 h2 => lv_aload_n F.1 F.2.1 hd hj (hl.get hL (un_ref x)) (k p e s m args below meth c ls H locs F hl hR hS h1 h2)
theorem ev_istore {i : Nat} {x : Int32} (hd : decode r.2.1 pc = .ok (.istore i, 2)) (hi : i < r.ml) (k : Ev G r (pc + 2) (L.set i (.int x)) st h cs ss Post) : Ev G r pc L (.int x :: st) h cs ss Post := by
  intro p e s m args below meth c ls H locs F hl hR hS h1 h2
  obtain ⟨ls', e', h'⟩ := hl.set (v := .int x) hi rfl
  have hexec := F.1
  have hb := F.2.1
  intro T hT X
  obtain ⟨t, a, b⟩ := k p e s m args below meth c ls' H locs F h' hR hS h1 h2 T hT X
  refine ⟨t, ?_, b⟩
  jvm_step X.here [X.here.top, ↓top_set X.here.top, hexec, hb, hd, e']
  exact a
theorem ev_istoren {i : Nat} {x : Int32} {j : Fin 4} (hj : (j : Nat) = i) (hd : decode r.2.1 pc = .ok (.istore_n j, 1)) (hi : i < r.ml) (k : Ev G r (pc + 1) (L.set i (.int x)) st h cs ss Post) : Ev G r pc L (.int x :: st) h cs ss Post := by
  intro p e s m args below meth c ls H locs F hl hR hS h1 h2
  subst hj
  obtain ⟨ls', e', h'⟩ := hl.set (v := .int x) hi rfl
  have hexec := F.1
  have hb := F.2.1
  intro T hT X
  obtain ⟨t, a, b⟩ := k p e s m args below meth c ls' H locs F h' hR hS h1 h2 T hT X
  refine ⟨t, ?_, b⟩
  jvm_step X.here [X.here.top, ↓top_set X.here.top, hexec, hb, hd, e']
  exact a
theorem ev_astore {i : Nat} {x : Nat} (hd : decode r.2.1 pc = .ok (.astore i, 2)) (hi : i < r.ml) (k : Ev G r (pc + 2) (L.set i (.ref x)) st h cs ss Post) : Ev G r pc L (.ref x :: st) h cs ss Post := by
  intro p e s m args below meth c ls H locs F hl hR hS h1 h2
  obtain ⟨ls', e', h'⟩ := hl.set (v := .ref x) hi rfl
  have hexec := F.1
  have hb := F.2.1
  intro T hT X
  obtain ⟨t, a, b⟩ := k p e s m args below meth c ls' H locs F h' hR hS h1 h2 T hT X
  refine ⟨t, ?_, b⟩
  jvm_step X.here [X.here.top, ↓top_set X.here.top, hexec, hb, hd, e']
  exact ⟨rfl, a⟩
theorem ev_astoren {i : Nat} {x : Nat} {j : Fin 4} (hj : (j : Nat) = i) (hd : decode r.2.1 pc = .ok (.astore_n j, 1)) (hi : i < r.ml) (k : Ev G r (pc + 1) (L.set i (.ref x)) st h cs ss Post) : Ev G r pc L (.ref x :: st) h cs ss Post := by
  intro p e s m args below meth c ls H locs F hl hR hS h1 h2
  subst hj
  obtain ⟨ls', e', h'⟩ := hl.set (v := .ref x) hi rfl
  have hexec := F.1
  have hb := F.2.1
  intro T hT X
  obtain ⟨t, a, b⟩ := k p e s m args below meth c ls' H locs F h' hR hS h1 h2 T hT X
  refine ⟨t, ?_, b⟩
  jvm_step X.here [X.here.top, ↓top_set X.here.top, hexec, hb, hd, e']
  exact ⟨rfl, a⟩
theorem ev_iinc {i : Nat} {x v : Int32} {n : Int} (hd : decode r.2.1 pc = .ok (.iinc i n, 3)) (hn : Int32.ofInt n = v) (hL : L[i]? = some (.int x)) (hi : i < r.ml) (k : Ev G r (pc + 3) (L.set i (.int (x + v))) st h cs ss Post) : Ev G r pc L st h cs ss Post := by
  intro p e s m args below meth c ls H locs F hl hR hS h1 h2
  subst hn
  have hg := hl.get hL (un_int x)
  obtain ⟨ls', e', h'⟩ := hl.set (v := .int (x + Int32.ofInt n)) hi rfl
  have hexec := F.1
  have hb := F.2.1
  intro T hT X
  obtain ⟨t, a, b⟩ := k p e s m args below meth c ls' H locs F h' hR hS h1 h2 T hT X
  refine ⟨t, ?_, b⟩
  jvm_step X.here [X.here.top, ↓top_set X.here.top, hexec, hb, hd, hg, e']
  exact a
theorem ev_iconst {n : Int} {v : Int32} (hd : decode r.2.1 pc = .ok (.iconst n, 1)) (hv : Int32.ofInt n = v) (k : Ev G r (pc + 1) L (.int v :: st) h cs ss Post) : Ev G r pc L st h cs ss Post :=
  fun p e s m args below meth c ls H locs F hl hR hS h1 h2 => lv_iconst F.1 F.2.1 hd hv (k p e s m args below meth c ls H locs F hl hR hS h1 h2)
theorem ev_bipush {n : Int} {v : Int32} (hd : decode r.2.1 pc = .ok (.bipush n, 2)) (hv : (Int8.ofInt n).toInt32 = v) (k : Ev G r (pc + 2) L (.int v :: st) h cs ss Post) : Ev G r pc L st h cs ss Post :=
  fun p e s m args below meth c ls H locs F hl hR hS h1 h2 => lv_bipush F.1 F.2.1 hd hv (k p e s m args below meth c ls H locs F hl hR hS h1 h2)
theorem ev_sipush {n : Int} {v : Int32} (hd : decode r.2.1 pc = .ok (.sipush n, 3)) (hv : (Int16.ofInt n).toInt32 = v) (k : Ev G r (pc + 3) L (.int v :: st) h cs ss Post) : Ev G r pc L st h cs ss Post :=
  fun p e s m args below meth c ls H locs F hl hR hS h1 h2 => lv_sipush F.1 F.2.1 hd hv (k p e s m args below meth c ls H locs F hl hR hS h1 h2)
theorem ev_ldc {n : Nat} {v : Int32} (hw : Cond.constant r.1.cls n v ∈ lw_good) (hd : decode r.2.1 pc = .ok (.ldc n, 2)) (k : Ev G r (pc + 2) L (.int v :: st) h cs ss Post) : Ev G r pc L st h cs ss Post :=
  fun p e s m args below meth c ls H locs F hl hR hS h1 h2 => lv_ldc F.1 F.2.1 F.2.2.2.2.1 (F.2.2.2.2.2.1 _ hw) hd (k p e s m args below meth c ls H locs F hl hR hS h1 h2)
theorem ev_ldcw {n : Nat} {v : Int32} (hw : Cond.constant r.1.cls n v ∈ lw_good) (hd : decode r.2.1 pc = .ok (.ldc_w n, 3)) (k : Ev G r (pc + 3) L (.int v :: st) h cs ss Post) : Ev G r pc L st h cs ss Post :=
  fun p e s m args below meth c ls H locs F hl hR hS h1 h2 => lv_ldcw F.1 F.2.1 F.2.2.2.2.1 (F.2.2.2.2.2.1 _ hw) hd (k p e s m args below meth c ls H locs F hl hR hS h1 h2)
theorem ev_ldcS {i n : Nat} {tx : String} (hi : lits[i]? = some (r.1.cls, n, tx)) (hd : decode r.2.1 pc = .ok (.ldc n, 2)) (k : Ev G r (pc + 2) L (.ref (G.lit i) :: st) h cs ss Post) : Ev G r pc L st h cs ss Post :=
  fun p e s m args below meth c ls H locs F hl hR hS h1 h2 => va_ldcS F.1 F.2.1 F.2.2.2.2.1 (F.2.2.2.2.2.2.2.2.1.2.2.2.2.2.1 i _ hi) hd (k p e s m args below meth c ls H locs F hl hR hS h1 h2)
theorem ev_gets {i n : Nat} {q : String × String × String} (hi : sts[i]? = some q) (hw : Cond.fieldLink r.1.cls n q.1 q.2.1 q.2.2 ∈ lw_good) (hd : decode r.2.1 pc = .ok (.getstatic n, 3)) (k : Ev G r (pc + 3) L (G.st i :: st) h cs ss Post) : Ev G r pc L st h cs ss Post :=
  fun p e s m args below meth c ls H locs F hl hR hS h1 h2 => va_gets F.1 F.2.1 (F.2.2.2.2.2.2.2.2.1.2.2.1 i _ hi) hS F.2.2.2.2.1 (F.2.2.2.2.2.1 _ hw) (fun _ h9 => h9) hd (k p e s m args below meth c ls H locs F hl hR hS h1 h2)
theorem ev_geto {i n a : Nat} {q : String × String × String} (hi : ofs[i]? = some q) (ha : G.of i a ≠ un) (hw : Cond.fieldLink r.1.cls n q.1 q.2.1 q.2.2 ∈ lw_good) (hd : decode r.2.1 pc = .ok (.getfield n, 3)) (k : Ev G r (pc + 3) L (G.of i a :: st) h cs ss Post) : Ev G r pc L (.ref a :: st) h cs ss Post :=
  fun p e s m args below meth c ls H locs F hl hR hS h1 h2 => vk_getf F.1 F.2.1 (F.2.2.2.2.2.2.2.2.1.2.2.2.1 i a _ hi ha) hS F.2.2.2.2.1 (F.2.2.2.2.2.1 _ hw) (fun _ h9 => h9) hd (k p e s m args below meth c ls H locs F hl hR hS h1 h2)
theorem ev_iadd {x y : Int32} (hd : decode r.2.1 pc = .ok (.iadd, 1)) (k : Ev G r (pc + 1) L (.int (x + y) :: st) h cs ss Post) : Ev G r pc L (.int y :: .int x :: st) h cs ss Post :=
  fun p e s m args below meth c ls H locs F hl hR hS h1 h2 => lv_iadd F.1 F.2.1 hd (k p e s m args below meth c ls H locs F hl hR hS h1 h2)
theorem ev_isub {x y : Int32} (hd : decode r.2.1 pc = .ok (.isub, 1)) (k : Ev G r (pc + 1) L (.int (x - y) :: st) h cs ss Post) : Ev G r pc L (.int y :: .int x :: st) h cs ss Post :=
  fun p e s m args below meth c ls H locs F hl hR hS h1 h2 => lv_isub F.1 F.2.1 hd (k p e s m args below meth c ls H locs F hl hR hS h1 h2)
theorem ev_imul {x y : Int32} (hd : decode r.2.1 pc = .ok (.imul, 1)) (k : Ev G r (pc + 1) L (.int (x * y) :: st) h cs ss Post) : Ev G r pc L (.int y :: .int x :: st) h cs ss Post :=
  fun p e s m args below meth c ls H locs F hl hR hS h1 h2 => lv_imul F.1 F.2.1 hd (k p e s m args below meth c ls H locs F hl hR hS h1 h2)
theorem ev_iand {x y : Int32} (hd : decode r.2.1 pc = .ok (.iand, 1)) (k : Ev G r (pc + 1) L (.int (x &&& y) :: st) h cs ss Post) : Ev G r pc L (.int y :: .int x :: st) h cs ss Post :=
  fun p e s m args below meth c ls H locs F hl hR hS h1 h2 => lv_iand F.1 F.2.1 hd (k p e s m args below meth c ls H locs F hl hR hS h1 h2)
theorem ev_ior {x y : Int32} (hd : decode r.2.1 pc = .ok (.ior, 1)) (k : Ev G r (pc + 1) L (.int (x ||| y) :: st) h cs ss Post) : Ev G r pc L (.int y :: .int x :: st) h cs ss Post :=
  fun p e s m args below meth c ls H locs F hl hR hS h1 h2 => lv_ior F.1 F.2.1 hd (k p e s m args below meth c ls H locs F hl hR hS h1 h2)
theorem ev_ixor {x y : Int32} (hd : decode r.2.1 pc = .ok (.ixor, 1)) (k : Ev G r (pc + 1) L (.int (x ^^^ y) :: st) h cs ss Post) : Ev G r pc L (.int y :: .int x :: st) h cs ss Post :=
  fun p e s m args below meth c ls H locs F hl hR hS h1 h2 => lv_ixor F.1 F.2.1 hd (k p e s m args below meth c ls H locs F hl hR hS h1 h2)
theorem ev_ishl {x y : Int32} (hd : decode r.2.1 pc = .ok (.ishl, 1)) (k : Ev G r (pc + 1) L (.int (x <<< (y &&& 31)) :: st) h cs ss Post) : Ev G r pc L (.int y :: .int x :: st) h cs ss Post :=
  fun p e s m args below meth c ls H locs F hl hR hS h1 h2 => lv_ishl F.1 F.2.1 hd (k p e s m args below meth c ls H locs F hl hR hS h1 h2)
theorem ev_ishr {x y : Int32} (hd : decode r.2.1 pc = .ok (.ishr, 1)) (k : Ev G r (pc + 1) L (.int (x >>> (y &&& 31)) :: st) h cs ss Post) : Ev G r pc L (.int y :: .int x :: st) h cs ss Post :=
  fun p e s m args below meth c ls H locs F hl hR hS h1 h2 => lv_ishr F.1 F.2.1 hd (k p e s m args below meth c ls H locs F hl hR hS h1 h2)
theorem ev_iushr {x y : Int32} (hd : decode r.2.1 pc = .ok (.iushr, 1)) (k : Ev G r (pc + 1) L (.int ((x.toUInt32 >>> (y.toUInt32 &&& Int32.toUInt32 31)).toInt32) :: st) h cs ss Post) : Ev G r pc L (.int y :: .int x :: st) h cs ss Post :=
  fun p e s m args below meth c ls H locs F hl hR hS h1 h2 => lv_iushr F.1 F.2.1 hd rfl (k p e s m args below meth c ls H locs F hl hR hS h1 h2)
theorem ev_idiv {x y : Int32} (hd : decode r.2.1 pc = .ok (.idiv, 1)) (hn : ¬ y = 0) (k : Ev G r (pc + 1) L (.int (x / y) :: st) h cs ss Post) : Ev G r pc L (.int y :: .int x :: st) h cs ss Post :=
  fun p e s m args below meth c ls H locs F hl hR hS h1 h2 => lv_idiv F.1 F.2.1 hd hn (k p e s m args below meth c ls H locs F hl hR hS h1 h2)
theorem ev_irem {x y : Int32} (hd : decode r.2.1 pc = .ok (.irem, 1)) (hn : ¬ y = 0) (k : Ev G r (pc + 1) L (.int (x - x / y * y) :: st) h cs ss Post) : Ev G r pc L (.int y :: .int x :: st) h cs ss Post :=
  fun p e s m args below meth c ls H locs F hl hR hS h1 h2 => lv_irem F.1 F.2.1 hd hn (k p e s m args below meth c ls H locs F hl hR hS h1 h2)
theorem ev_ineg {x : Int32} (hd : decode r.2.1 pc = .ok (.ineg, 1)) (k : Ev G r (pc + 1) L (.int (-x) :: st) h cs ss Post) : Ev G r pc L (.int x :: st) h cs ss Post :=
  fun p e s m args below meth c ls H locs F hl hR hS h1 h2 => lv_ineg F.1 F.2.1 hd (k p e s m args below meth c ls H locs F hl hR hS h1 h2)
theorem ev_i2b {x : Int32} (hd : decode r.2.1 pc = .ok (.i2b, 1)) (k : Ev G r (pc + 1) L (.int (x.toInt8.toInt32) :: st) h cs ss Post) : Ev G r pc L (.int x :: st) h cs ss Post :=
  fun p e s m args below meth c ls H locs F hl hR hS h1 h2 => lv_i2b F.1 F.2.1 hd rfl (k p e s m args below meth c ls H locs F hl hR hS h1 h2)
theorem ev_i2c {x : Int32} (hd : decode r.2.1 pc = .ok (.i2c, 1)) (k : Ev G r (pc + 1) L (.int ((x.toUInt32 % 65536).toInt32) :: st) h cs ss Post) : Ev G r pc L (.int x :: st) h cs ss Post :=
  fun p e s m args below meth c ls H locs F hl hR hS h1 h2 => lv_i2c F.1 F.2.1 hd rfl (k p e s m args below meth c ls H locs F hl hR hS h1 h2)
theorem ev_i2l {x : Int32} (hd : decode r.2.1 pc = .ok (.i2l, 1)) (k : Ev G r (pc + 1) L (.long (x.toInt64) :: st) h cs ss Post) : Ev G r pc L (.int x :: st) h cs ss Post :=
  fun p e s m args below meth c ls H locs F hl hR hS h1 h2 => lv_i2l F.1 F.2.1 hd rfl (k p e s m args below meth c ls H locs F hl hR hS h1 h2)
theorem ev_lconst {n : Fin 2} {v : Int64} (hd : decode r.2.1 pc = .ok (.lconst n, 1)) (hv : Int64.ofNat (n : Nat) = v) (k : Ev G r (pc + 1) L (.long v :: st) h cs ss Post) : Ev G r pc L st h cs ss Post :=
  fun p e s m args below meth c ls H locs F hl hR hS h1 h2 => lv_lconst F.1 F.2.1 hd hv (k p e s m args below meth c ls H locs F hl hR hS h1 h2)
theorem ev_lcmp {x y : Int64} (hd : decode r.2.1 pc = .ok (.lcmp, 1)) (k : Ev G r (pc + 1) L (.int (lg_cmp x y) :: st) h cs ss Post) : Ev G r pc L (.long y :: .long x :: st) h cs ss Post :=
  fun p e s m args below meth c ls H locs F hl hR hS h1 h2 => W.lcmp F.1 F.2.1 hd (k p e s m args below meth c ls H locs F hl hR hS h1 h2)
theorem ev_dup {v : Value} (hd : decode r.2.1 pc = .ok (.dup, 1)) (hv : v.category = 1) (k : Ev G r (pc + 1) L (v :: v :: st) h cs ss Post) : Ev G r pc L (v :: st) h cs ss Post :=
  fun p e s m args below meth c ls H locs F hl hR hS h1 h2 => lv_dup F.1 F.2.1 hd hv (k p e s m args below meth c ls H locs F hl hR hS h1 h2)
theorem ev_dup2 {v w : Value} (hd : decode r.2.1 pc = .ok (.dup2, 1)) (hv : v.category = 1) (hw : w.category = 1) (k : Ev G r (pc + 1) L (v :: w :: v :: w :: st) h cs ss Post) : Ev G r pc L (v :: w :: st) h cs ss Post :=
  fun p e s m args below meth c ls H locs F hl hR hS h1 h2 => lv_dup2_11 F.1 F.2.1 hd hv hw (k p e s m args below meth c ls H locs F hl hR hS h1 h2)
theorem ev_pop {v : Value} (hd : decode r.2.1 pc = .ok (.pop, 1)) (hv : v.category = 1) (k : Ev G r (pc + 1) L st h cs ss Post) : Ev G r pc L (v :: st) h cs ss Post :=
  fun p e s m args below meth c ls H locs F hl hR hS h1 h2 => lv_pop F.1 F.2.1 hd hv (k p e s m args below meth c ls H locs F hl hR hS h1 h2)
theorem ev_goto {off : Int} {tgt : Nat} (hd : decode r.2.1 pc = .ok (.goto off, 3)) (ht : (pc : Int) + off = (tgt : Int)) (k : Ev G r tgt L st h cs ss Post) : Ev G r pc L st h cs ss Post :=
  fun p e s m args below meth c ls H locs F hl hR hS h1 h2 => lv_goto F.1 F.2.1 hd ht (k p e s m args below meth c ls H locs F hl hR hS h1 h2)
theorem ev_if_eq {x : Int32} {off : Int} {tgt : Nat} (hd : decode r.2.1 pc = .ok (.ifCond .eq off, 3)) (ht : (pc : Int) + off = (tgt : Int)) (kt : x = 0 → Ev G r tgt L st h cs ss Post) (kf : ¬ x = 0 → Ev G r (pc + 3) L st h cs ss Post) : Ev G r pc L (.int x :: st) h cs ss Post :=
  fun p e s m args below meth c ls H locs F hl hR hS h1 h2 => lv_if_eq F.1 F.2.1 hd ht (fun q => kt q p e s m args below meth c ls H locs F hl hR hS h1 h2) (fun q => kf q p e s m args below meth c ls H locs F hl hR hS h1 h2)
theorem ev_icmp_eq {x y : Int32} {off : Int} {tgt : Nat} (hd : decode r.2.1 pc = .ok (.if_icmp .eq off, 3)) (ht : (pc : Int) + off = (tgt : Int)) (kt : x = y → Ev G r tgt L st h cs ss Post) (kf : ¬ x = y → Ev G r (pc + 3) L st h cs ss Post) : Ev G r pc L (.int y :: .int x :: st) h cs ss Post :=
  fun p e s m args below meth c ls H locs F hl hR hS h1 h2 => lv_icmp_eq F.1 F.2.1 hd ht (fun q => kt q p e s m args below meth c ls H locs F hl hR hS h1 h2) (fun q => kf q p e s m args below meth c ls H locs F hl hR hS h1 h2)
theorem ev_if_ne {x : Int32} {off : Int} {tgt : Nat} (hd : decode r.2.1 pc = .ok (.ifCond .ne off, 3)) (ht : (pc : Int) + off = (tgt : Int)) (kt : ¬ x = 0 → Ev G r tgt L st h cs ss Post) (kf : x = 0 → Ev G r (pc + 3) L st h cs ss Post) : Ev G r pc L (.int x :: st) h cs ss Post :=
  fun p e s m args below meth c ls H locs F hl hR hS h1 h2 => lv_if_ne F.1 F.2.1 hd ht (fun q => kt q p e s m args below meth c ls H locs F hl hR hS h1 h2) (fun q => kf q p e s m args below meth c ls H locs F hl hR hS h1 h2)
theorem ev_icmp_ne {x y : Int32} {off : Int} {tgt : Nat} (hd : decode r.2.1 pc = .ok (.if_icmp .ne off, 3)) (ht : (pc : Int) + off = (tgt : Int)) (kt : ¬ x = y → Ev G r tgt L st h cs ss Post) (kf : x = y → Ev G r (pc + 3) L st h cs ss Post) : Ev G r pc L (.int y :: .int x :: st) h cs ss Post :=
  fun p e s m args below meth c ls H locs F hl hR hS h1 h2 => lv_icmp_ne F.1 F.2.1 hd ht (fun q => kt q p e s m args below meth c ls H locs F hl hR hS h1 h2) (fun q => kf q p e s m args below meth c ls H locs F hl hR hS h1 h2)
theorem ev_if_lt {x : Int32} {off : Int} {tgt : Nat} (hd : decode r.2.1 pc = .ok (.ifCond .lt off, 3)) (ht : (pc : Int) + off = (tgt : Int)) (kt : x < 0 → Ev G r tgt L st h cs ss Post) (kf : ¬ x < 0 → Ev G r (pc + 3) L st h cs ss Post) : Ev G r pc L (.int x :: st) h cs ss Post :=
  fun p e s m args below meth c ls H locs F hl hR hS h1 h2 => lv_if_lt F.1 F.2.1 hd ht (fun q => kt q p e s m args below meth c ls H locs F hl hR hS h1 h2) (fun q => kf q p e s m args below meth c ls H locs F hl hR hS h1 h2)
theorem ev_icmp_lt {x y : Int32} {off : Int} {tgt : Nat} (hd : decode r.2.1 pc = .ok (.if_icmp .lt off, 3)) (ht : (pc : Int) + off = (tgt : Int)) (kt : x < y → Ev G r tgt L st h cs ss Post) (kf : ¬ x < y → Ev G r (pc + 3) L st h cs ss Post) : Ev G r pc L (.int y :: .int x :: st) h cs ss Post :=
  fun p e s m args below meth c ls H locs F hl hR hS h1 h2 => lv_icmp_lt F.1 F.2.1 hd ht (fun q => kt q p e s m args below meth c ls H locs F hl hR hS h1 h2) (fun q => kf q p e s m args below meth c ls H locs F hl hR hS h1 h2)
theorem ev_if_ge {x : Int32} {off : Int} {tgt : Nat} (hd : decode r.2.1 pc = .ok (.ifCond .ge off, 3)) (ht : (pc : Int) + off = (tgt : Int)) (kt : 0 ≤ x → Ev G r tgt L st h cs ss Post) (kf : ¬ 0 ≤ x → Ev G r (pc + 3) L st h cs ss Post) : Ev G r pc L (.int x :: st) h cs ss Post :=
  fun p e s m args below meth c ls H locs F hl hR hS h1 h2 => lv_if_ge F.1 F.2.1 hd ht (fun q => kt q p e s m args below meth c ls H locs F hl hR hS h1 h2) (fun q => kf q p e s m args below meth c ls H locs F hl hR hS h1 h2)
theorem ev_icmp_ge {x y : Int32} {off : Int} {tgt : Nat} (hd : decode r.2.1 pc = .ok (.if_icmp .ge off, 3)) (ht : (pc : Int) + off = (tgt : Int)) (kt : y ≤ x → Ev G r tgt L st h cs ss Post) (kf : ¬ y ≤ x → Ev G r (pc + 3) L st h cs ss Post) : Ev G r pc L (.int y :: .int x :: st) h cs ss Post :=
  fun p e s m args below meth c ls H locs F hl hR hS h1 h2 => lv_icmp_ge F.1 F.2.1 hd ht (fun q => kt q p e s m args below meth c ls H locs F hl hR hS h1 h2) (fun q => kf q p e s m args below meth c ls H locs F hl hR hS h1 h2)
theorem ev_if_gt {x : Int32} {off : Int} {tgt : Nat} (hd : decode r.2.1 pc = .ok (.ifCond .gt off, 3)) (ht : (pc : Int) + off = (tgt : Int)) (kt : 0 < x → Ev G r tgt L st h cs ss Post) (kf : ¬ 0 < x → Ev G r (pc + 3) L st h cs ss Post) : Ev G r pc L (.int x :: st) h cs ss Post :=
  fun p e s m args below meth c ls H locs F hl hR hS h1 h2 => lv_if_gt F.1 F.2.1 hd ht (fun q => kt q p e s m args below meth c ls H locs F hl hR hS h1 h2) (fun q => kf q p e s m args below meth c ls H locs F hl hR hS h1 h2)
theorem ev_icmp_gt {x y : Int32} {off : Int} {tgt : Nat} (hd : decode r.2.1 pc = .ok (.if_icmp .gt off, 3)) (ht : (pc : Int) + off = (tgt : Int)) (kt : y < x → Ev G r tgt L st h cs ss Post) (kf : ¬ y < x → Ev G r (pc + 3) L st h cs ss Post) : Ev G r pc L (.int y :: .int x :: st) h cs ss Post :=
  fun p e s m args below meth c ls H locs F hl hR hS h1 h2 => lv_icmp_gt F.1 F.2.1 hd ht (fun q => kt q p e s m args below meth c ls H locs F hl hR hS h1 h2) (fun q => kf q p e s m args below meth c ls H locs F hl hR hS h1 h2)
theorem ev_if_le {x : Int32} {off : Int} {tgt : Nat} (hd : decode r.2.1 pc = .ok (.ifCond .le off, 3)) (ht : (pc : Int) + off = (tgt : Int)) (kt : x ≤ 0 → Ev G r tgt L st h cs ss Post) (kf : ¬ x ≤ 0 → Ev G r (pc + 3) L st h cs ss Post) : Ev G r pc L (.int x :: st) h cs ss Post :=
  fun p e s m args below meth c ls H locs F hl hR hS h1 h2 => lv_if_le F.1 F.2.1 hd ht (fun q => kt q p e s m args below meth c ls H locs F hl hR hS h1 h2) (fun q => kf q p e s m args below meth c ls H locs F hl hR hS h1 h2)
theorem ev_icmp_le {x y : Int32} {off : Int} {tgt : Nat} (hd : decode r.2.1 pc = .ok (.if_icmp .le off, 3)) (ht : (pc : Int) + off = (tgt : Int)) (kt : x ≤ y → Ev G r tgt L st h cs ss Post) (kf : ¬ x ≤ y → Ev G r (pc + 3) L st h cs ss Post) : Ev G r pc L (.int y :: .int x :: st) h cs ss Post :=
  fun p e s m args below meth c ls H locs F hl hR hS h1 h2 => lv_icmp_le F.1 F.2.1 hd ht (fun q => kt q p e s m args below meth c ls H locs F hl hR hS h1 h2) (fun q => kf q p e s m args below meth c ls H locs F hl hR hS h1 h2)
theorem ev_acmp_eq {x y : Nat} {off : Int} {tgt : Nat} (hd : decode r.2.1 pc = .ok (.if_acmp .eq off, 3)) (ht : (pc : Int) + off = (tgt : Int)) (kt : x = y → Ev G r tgt L st h cs ss Post) (kf : ¬ x = y → Ev G r (pc + 3) L st h cs ss Post) : Ev G r pc L (.ref y :: .ref x :: st) h cs ss Post :=
  fun p e s m args below meth c ls H locs F hl hR hS h1 h2 => lv_acmp_eq (rx := some x) (ry := some y) F.1 F.2.1 hd ht (fun q => kt (Option.some.inj q) p e s m args below meth c ls H locs F hl hR hS h1 h2) (fun q => kf (fun z => q (congrArg some z)) p e s m args below meth c ls H locs F hl hR hS h1 h2)
theorem ev_acmp_ne {x y : Nat} {off : Int} {tgt : Nat} (hd : decode r.2.1 pc = .ok (.if_acmp .ne off, 3)) (ht : (pc : Int) + off = (tgt : Int)) (kt : ¬ x = y → Ev G r tgt L st h cs ss Post) (kf : x = y → Ev G r (pc + 3) L st h cs ss Post) : Ev G r pc L (.ref y :: .ref x :: st) h cs ss Post :=
  fun p e s m args below meth c ls H locs F hl hR hS h1 h2 => lv_acmp_ne (rx := some x) (ry := some y) F.1 F.2.1 hd ht (fun q => kt (fun z => q (congrArg some z)) p e s m args below meth c ls H locs F hl hR hS h1 h2) (fun q => kf (Option.some.inj q) p e s m args below meth c ls H locs F hl hR hS h1 h2)
theorem ev_tabOut {dflt lo hi : Int} {offs : Array Int} {len : Nat} {x : Int32} {tgt : Nat} (hd : decode r.2.1 pc = .ok (.tableswitch dflt lo hi offs, len)) (hx : x.toInt < lo ∨ hi < x.toInt) (ht : (pc : Int) + dflt = (tgt : Int)) (k : Ev G r tgt L st h cs ss Post) : Ev G r pc L (.int x :: st) h cs ss Post :=
  fun p e s m args below meth c ls H locs F hl hR hS h1 h2 => lv_tableOut F.1 F.2.1 hd hx ht (k p e s m args below meth c ls H locs F hl hR hS h1 h2)
theorem ev_tabIn {dflt lo hi : Int} {offs : Array Int} {len : Nat} {x : Int32} {off : Int} {tgt : Nat} (hd : decode r.2.1 pc = .ok (.tableswitch dflt lo hi offs, len)) (ha : ¬ x.toInt < lo) (hb : ¬ hi < x.toInt) (ho : offs[(x.toInt - lo).toNat]? = some off) (ht : (pc : Int) + off = (tgt : Int)) (k : Ev G r tgt L st h cs ss Post) : Ev G r pc L (.int x :: st) h cs ss Post :=
  fun p e s m args below meth c ls H locs F hl hR hS h1 h2 => lv_tableIn F.1 F.2.1 hd ha hb ho ht (k p e s m args below meth c ls H locs F hl hR hS h1 h2)
theorem Ev.kill (d : Nat) (k : Ev G r pc (L.set d un) st h cs ss Post) : Ev G r pc L st h cs ss Post :=
  fun p e s m args below meth c ls H locs F hl hR hS h1 h2 => k p e s m args below meth c ls H locs F (hl.kill d) hR hS h1 h2
theorem Ev.kills (ds : List Nat) : ∀ (L : List Value), Ev G r pc (ds.foldl (fun L d => L.set d un) L) st h cs ss Post → Ev G r pc L st h cs ss Post := by
  induction ds with
  | nil => exact fun _ k => k
  | cons d ds ih => exact fun L k => Ev.kill d (ih _ k)
/-- the end: an int, a boolean, a byte, a char; a reference; nothing -/
theorem ev_iret {v : Int32} {ty : FieldType} (ht : r.rt = some ty) (hn : narrow ty (.int v) = .int v) (hd : decode r.2.1 pc = .ok (.ireturn, 1)) (k : Post (.inl (some (.int v))) h) : Ev G r pc L [.int v] h cs ss Post := by
  intro p e s m args below meth c ls H locs F hl hR hS h1 h2
  have hlocks := F.2.2.2.2.2.2.1
  refine W.widen (k := r.mc) (n := r.ms) h1 h2 (vx_ret ?_)
  exact W.zret F.1 F.2.1 (F.2.2.1.trans ht) hn (fun t ht hW => ⟨some (.int v), h, rfl, k, by rw [ht]; exact hR.moved hW.alike, hS.F ht⟩) hS.2.2 hd
theorem ev_aret {a : Nat} {n : String} (ht : r.rt = some (.object n)) (hd : decode r.2.1 pc = .ok (.areturn, 1)) (k : Post (.inl (some (.ref a))) h) : Ev G r pc L [.ref a] h cs ss Post := by
  intro p e s m args below meth c ls H locs F hl hR hS h1 h2
  have hlocks := F.2.2.2.2.2.2.1
  refine W.widen (k := r.mc) (n := r.ms) h1 h2 (vx_ret ?_)
  exact W.aret F.1 F.2.1 (F.2.2.1.trans ht) (Or.inl ⟨n, rfl⟩) (Or.inr ⟨a, rfl⟩) (fun t ht hW => ⟨some (.ref a), h, rfl, k, by rw [ht]; exact hR.moved hW.alike, hS.F ht⟩) hS.2.2 hd
theorem ev_vret (ht : r.rt = none) (hd : decode r.2.1 pc = .ok (.return_, 1)) (k : Post (.inl none) h) : Ev G r pc L [] h cs ss Post := by
  intro p e s m args below meth c ls H locs F hl hR hS h1 h2
  have hlocks := F.2.2.2.2.2.2.1
  refine W.widen (k := r.mc) (n := r.ms) h1 h2 (vx_ret ?_)
  exact W.vret F.1 F.2.1 (F.2.2.1.trans ht) (fun t ht hW => ⟨none, h, rfl, k, by rw [ht]; exact hR.moved hW.alike, hS.F ht⟩) hS.2.2 hd
end EVR
