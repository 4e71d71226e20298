/-! ===== the abstract machine's heap, contexts and judgements ===== -/
/-- shapes (kind, size), contents, the next address -/
abbrev Hp : Type := (Nat → Nat × Nat) × (Nat → Nat → Value) × Nat
/-- returned (nothing or a value), or thrown (a class) -/
abbrev Res : Type := Option Value ⊕ String
/-- name, bytes, locals, answer's type, cells, slots, depth -/
abbrev Mr : Type := MethodName × ByteArray × Nat × Option FieldType × Nat × Nat × Nat
/-- launch; numbers and slots; the first new address; statics; old fields; old objects' kinds; texts' addresses -/
abbrev Gx : Type := Launch × va_G × Nat × (Nat → Value) × (Nat → Nat → Value) × (Nat → Nat) × (Nat → Nat)
abbrev Gx.n0 (G : Gx) : Nat := G.2.2.1
abbrev Gx.st (G : Gx) : Nat → Value := G.2.2.2.1
abbrev Gx.of (G : Gx) : Nat → Nat → Value := G.2.2.2.2.1
abbrev Gx.oc (G : Gx) : Nat → Nat := G.2.2.2.2.2.1
abbrev Gx.lit (G : Gx) : Nat → Nat := G.2.2.2.2.2.2
abbrev Mr.mc (r : Mr) : Nat := r.2.2.2.2.1
abbrev Mr.ms (r : Mr) : Nat := r.2.2.2.2.2.1
abbrev Mr.dp (r : Mr) : Nat := r.2.2.2.2.2.2
abbrev Mr.ml (r : Mr) : Nat := r.2.2.1
abbrev Mr.rt (r : Mr) : Option FieldType := r.2.2.2.1
def Mr.rm (r : Mr) : Room := { frames := r.dp, cells := r.mc, slots := r.ms, locals := 64 * r.dp }
def lw_good : List Cond := lw_tbl.filter goodWord
def Mr.ws (r : Mr) : List Cond := Cond.code r.1 r.2.1 r.ml r.rt :: lw_good
/-- the classes with objects -/
def cls : List vw_C := [(RX1, TX1, 5), (RX2, TX2, 7), (RX3, TX3, 3), (RX4, TX4, 5), (RX5, TX5, 6), (RX6, TX6, 3), (RX8, TX8, 1), (RX9, TX9, 19), (RX10, TX10, 1), (RX11, TX11, 13), (RX12, TX12, 25)]
/-- the kinds of arrays -/
def aty (j : Nat) : FieldType := match j with
  | 0 => .int
  | 1 => .boolean
  | 2 => .byte
  | 3 => .long
  | 4 => .object "GripEstates$Token"
  | _ => .object "GripEstates$Valley"
/-- statics that are read: class, name, type -/
def sts : List (String × String × String) := [("GripEstates$Token", "NUMBER", "LGripEstates$Token;"), ("GripEstates$Token", "ALL", "[LGripEstates$Token;"), ("java/lang/String", "COMPACT_STRINGS", "Z"), ("jdk/internal/util/Preconditions", "SIOOBE_FORMATTER", "Ljava/util/function/BiFunction;"), ("java/lang/StringUTF16", "$assertionsDisabled", "Z"), ("java/lang/StringUTF16", "HI_BYTE_SHIFT", "I"), ("java/lang/StringUTF16", "LO_BYTE_SHIFT", "I"), ("GripEstates$Token", "WRONG", "LGripEstates$Token;"), ("GripEstates$Token", "END", "LGripEstates$Token;"), ("GripEstates$Token", "PERSON", "LGripEstates$Token;"), ("GripEstates$Token", "AGE", "LGripEstates$Token;"), ("GripEstates$Token", "GRIP", "LGripEstates$Token;"), ("GripEstates$Token", "HEIR", "LGripEstates$Token;"), ("GripEstates$Token", "TIED", "LGripEstates$Token;"), ("GripEstates$Token", "THING", "LGripEstates$Token;"), ("GripEstates$Token", "WORTH", "LGripEstates$Token;"), ("GripEstates$Token", "SIZE", "LGripEstates$Token;"), ("GripEstates$Token", "OF", "LGripEstates$Token;"), ("GripEstates$Token", "HELD", "LGripEstates$Token;"), ("GripEstates$Token", "CLOTH", "LGripEstates$Token;"), ("GripEstates$Token", "CROWN", "LGripEstates$Token;"), ("GripEstates$Token", "DEATH", "LGripEstates$Token;"), ("GripEstates$Token", "WITNESSES", "LGripEstates$Token;"), ("GripEstates$Token", "NIGHT", "LGripEstates$Token;"), ("GripEstates$Token", "SEMICOLON", "LGripEstates$Token;"), ("GripEstates$Token", "SLIP", "LGripEstates$Token;"), ("GripEstates$Token", "FAIL", "LGripEstates$Token;"), ("GripEstates$Token", "IF", "LGripEstates$Token;"), ("GripEstates$Token", "NOT", "LGripEstates$Token;"), ("GripEstates$Token", "OPENING", "LGripEstates$Token;"), ("GripEstates$Token", "CLOSING", "LGripEstates$Token;"), ("GripEstates$Token", "PLUS", "LGripEstates$Token;"), ("GripEstates$Token", "LESS", "LGripEstates$Token;"), ("GripEstates$Token", "MORE", "LGripEstates$Token;"), ("GripEstates$Token", "AND", "LGripEstates$Token;"), ("GripEstates$Token", "OR", "LGripEstates$Token;"), ("GripEstates$Token", "OPEN", "LGripEstates$Token;"), ("GripEstates$Token", "ALONE", "LGripEstates$Token;"), ("GripEstates$Token", "HAND", "LGripEstates$Token;"), ("GripEstates$Token", "OWNS", "LGripEstates$Token;"), ("GripEstates$Token", "LAID", "LGripEstates$Token;")]
/-- fields of old objects that are read -/
def ofs : List (String × String × String) := [("GripEstates$Token", "text", "Ljava/lang/String;"), ("GripEstates$Token", "op", "I"), ("java/lang/String", "value", "[B"), ("java/lang/String", "coder", "B")]
/-- the kinds of old objects -/
def ocs : List String := ["GripEstates$Token", "java/lang/String"]
/-- text constants: whose, the entry, the text -/
def lits : List (String × Nat × String) := [("GripEstatesModel", 189, "person"), ("GripEstatesModel", 144, "age"), ("GripEstatesModel", 150, "grip"), ("GripEstatesModel", 152, "heir"), ("GripEstatesModel", 163, "tied"), ("GripEstatesModel", 197, "thing"), ("GripEstatesModel", 177, "worth"), ("GripEstatesModel", 179, "size"), ("GripEstatesModel", 181, "of"), ("GripEstatesModel", 169, "held"), ("GripEstatesModel", 171, "cloth"), ("GripEstatesModel", 203, "crown"), ("GripEstatesModel", 205, "death"), ("GripEstatesModel", 210, "witnesses"), ("GripEstatesModel", 212, "night"), ("GripEstatesModel", 264, "slip"), ("GripEstatesModel", 266, "fail"), ("GripEstatesModel", 268, "if"), ("GripEstatesModel", 246, "not"), ("GripEstatesModel", 236, "open"), ("GripEstatesModel", 238, "alone"), ("GripEstatesModel", 217, "hand"), ("GripEstatesModel", 219, "owns"), ("GripEstatesModel", 221, "laid"), ("GripEstatesModel", 257, "and"), ("GripEstatesModel", 262, "or"), ("GripEstates$Token", 162, ""), ("GripEstates$Token", 170, "person"), ("GripEstates$Token", 173, "age"), ("GripEstates$Token", 176, "grip"), ("GripEstates$Token", 179, "heir"), ("GripEstates$Token", 182, "tied"), ("GripEstates$Token", 185, "thing"), ("GripEstates$Token", 188, "worth"), ("GripEstates$Token", 191, "size"), ("GripEstates$Token", 194, "of"), ("GripEstates$Token", 197, "held"), ("GripEstates$Token", 200, "cloth"), ("GripEstates$Token", 203, "crown"), ("GripEstates$Token", 206, "death"), ("GripEstates$Token", 209, "witnesses"), ("GripEstates$Token", 212, "night"), ("GripEstates$Token", 248, ";"), ("GripEstates$Token", 215, "slip"), ("GripEstates$Token", 218, "fail"), ("GripEstates$Token", 221, "if"), ("GripEstates$Token", 230, "not"), ("GripEstates$Token", 251, "("), ("GripEstates$Token", 254, ")"), ("GripEstates$Token", 257, "+"), ("GripEstates$Token", 260, "<"), ("GripEstates$Token", 263, ">"), ("GripEstates$Token", 227, "and"), ("GripEstates$Token", 224, "or"), ("GripEstates$Token", 233, "open"), ("GripEstates$Token", 236, "alone"), ("GripEstates$Token", 239, "hand"), ("GripEstates$Token", 242, "owns"), ("GripEstates$Token", 245, "laid")]
/-- words that speak of more than the tables -/
def nests : List (String × Nat × MethodName × String) := [("GripEstates", 9, ⟨"GripEstates$Tape", "<init>", "()V"⟩, "GripEstates"), ("GripEstates", 18, ⟨"GripEstates$Told", "<init>", "()V"⟩, "GripEstates"), ("GripEstates", 25, ⟨"GripEstates$Matches", "<init>", "()V"⟩, "GripEstates"), ("GripEstates", 52, ⟨"GripEstates$Reader", "<init>", "()V"⟩, "GripEstates"), ("GripEstates$Valley", 66, ⟨"GripEstates$Log", "<init>", "()V"⟩, "GripEstates")]
def casts : List (String × String) := [("java/lang/IllegalArgumentException", "java/lang/IllegalArgumentException"), ("java/lang/UnsupportedOperationException", "java/lang/UnsupportedOperationException"), ("[I", "java/lang/Cloneable"), ("java/lang/IndexOutOfBoundsException", "java/lang/IndexOutOfBoundsException"), ("java/util/NoSuchElementException", "java/util/NoSuchElementException"), ("java/lang/IllegalStateException", "java/lang/IllegalStateException"), ("GripEstates", "java/lang/Object"), ("GripEstates$Tape", "java/lang/Object"), ("GripEstates$Told", "java/lang/Object"), ("GripEstates$Matches", "java/lang/Object"), ("GripEstates$Reader", "java/lang/Object"), ("GripEstates$ValleyReader", "java/lang/Object"), ("GripEstates$LawReader", "java/lang/Object"), ("GripEstates$Law", "java/lang/Object"), ("GripEstates$Valley", "java/lang/Object"), ("GripEstates$Log", "java/lang/Object"), ("GripEstatesModel", "java/lang/Object"), ("GripEstates$Token", "java/lang/Object"), ("java/lang/IllegalArgumentException", "java/lang/Object"), ("java/lang/UnsupportedOperationException", "java/lang/Object"), ("java/lang/IndexOutOfBoundsException", "java/lang/Object"), ("java/util/NoSuchElementException", "java/lang/Object"), ("java/lang/IllegalStateException", "java/lang/Object"), ("java/lang/Throwable", "java/lang/Object"), ("java/lang/String", "java/lang/Object")]
def decls : List MethodName := [⟨"java/lang/RuntimeException", "<init>", "()V"⟩, ⟨"java/lang/RuntimeException", "<init>", "(Ljava/lang/String;)V"⟩, ⟨"java/lang/Exception", "<init>", "()V"⟩, ⟨"java/lang/Exception", "<init>", "(Ljava/lang/String;)V"⟩, ⟨"java/lang/Throwable", "<init>", "()V"⟩, ⟨"java/lang/Throwable", "<init>", "(Ljava/lang/String;)V"⟩]
def ncasts : List (String × String) := [("java/lang/UnsupportedOperationException", "java/lang/IllegalArgumentException"), ("java/lang/IndexOutOfBoundsException", "java/lang/IllegalArgumentException"), ("java/util/NoSuchElementException", "java/lang/IllegalArgumentException"), ("java/lang/IllegalStateException", "java/lang/IllegalArgumentException"), ("java/lang/IllegalArgumentException", "java/lang/UnsupportedOperationException"), ("java/lang/IndexOutOfBoundsException", "java/lang/UnsupportedOperationException"), ("java/util/NoSuchElementException", "java/lang/UnsupportedOperationException"), ("java/lang/IllegalStateException", "java/lang/UnsupportedOperationException"), ("java/lang/IllegalArgumentException", "java/lang/IndexOutOfBoundsException"), ("java/lang/UnsupportedOperationException", "java/lang/IndexOutOfBoundsException"), ("java/util/NoSuchElementException", "java/lang/IndexOutOfBoundsException"), ("java/lang/IllegalStateException", "java/lang/IndexOutOfBoundsException"), ("java/lang/IllegalArgumentException", "java/util/NoSuchElementException"), ("java/lang/UnsupportedOperationException", "java/util/NoSuchElementException"), ("java/lang/IndexOutOfBoundsException", "java/util/NoSuchElementException"), ("java/lang/IllegalStateException", "java/util/NoSuchElementException"), ("java/lang/IllegalArgumentException", "java/lang/IllegalStateException"), ("java/lang/UnsupportedOperationException", "java/lang/IllegalStateException"), ("java/lang/IndexOutOfBoundsException", "java/lang/IllegalStateException"), ("java/util/NoSuchElementException", "java/lang/IllegalStateException")]
def aovers : List String := ["GripEstates$Valley", "GripEstates$Token"]
def un : Value := .retAddr 0
/-- a row's length: known, or (an old row) known as far as it is read -/
def szk (G : Gx) (a k n m : Nat) : Prop := n ≤ m ∧ m.toInt32 = n.toInt32 ∧ (G.n0 ≤ a ∨ k = 101 → m = n)
theorem szk.of {G : Gx} {a k n m : Nat} (e : m = n) : szk G a k n m := by subst e; exact ⟨Nat.le_refl _, rfl, fun _ => rfl⟩
theorem szk.new {G : Gx} {a k n m : Nat} (h : szk G a k n m) (ha : G.n0 ≤ a) : m = n := h.2.2 (Or.inl ha)
theorem szk.int {G : Gx} {a k n m : Nat} (h : szk G a k n m) (hk : k = 101) : m = n := h.2.2 (Or.inr hk)
def cok (G : Gx) (U : State) (H : Heap) (a : Nat) (q : Nat × Nat) (f : Nat → Value) : Prop :=
  (1 ≤ q.1 → q.1 ≤ 100 → ∃ r, cls[q.1 - 1]? = some r ∧ q.2 = r.2.2 ∧ t_OB a (G.2.1.1 (q.1 - 1)) r.2.2 (G.2.1.2 (q.1 - 1)) H f) ∧
  (100 < q.1 → ∃ cell : Cell, H[a]? = some cell ∧ U.isArrayOf cell (aty (q.1 - 101)) ∧ cell.vm ≠ .unknown ∧ szk G a q.1 q.2 cell.slots.size ∧ q.2 < 2 ^ 31 ∧ (∀ i, i < q.2 → cell.slots[i]? = some (f i)) ∧ (G.n0 ≤ a → va_RA U cell.cls (aty (q.1 - 101))))
def Rel (G : Gx) (h : Hp) (U : State) (H : Heap) : Prop := H.size = h.2.2 ∧ G.n0 ≤ h.2.2 ∧ ∀ a, cok G U H a (h.1 a) (h.2.1 a)
abbrev nw (G : Gx) : Nat → Prop := fun q => G.n0 ≤ q
def GokX (G : Gx) (U : State) : Prop :=
  (∀ q ∈ nests, va_Nw (.methodLinkNest q.1 q.2.1 q.2.2.1 q.2.2.2) U) ∧ (∀ q ∈ casts, va_Nw (.castable q.1 q.2) U) ∧ (∀ q ∈ decls, va_Nw (.declares q) U) ∧ (∀ q ∈ ncasts, va_Nc q.1 q.2 U) ∧ (∀ q ∈ aovers, va_AO q U) ∧
  vx_Zq Bundle.tN "UNASSIGNED_STACK" Bundle.steD (G.2.2.1 ≤ ·) U U.heap ∧ vx_Zq Bundle.tN "SUPPRESSED_SENTINEL" Bundle.listD (G.2.2.1 ≤ ·) U U.heap
theorem GokX.moved {G : Gx} {u U : State} (hW : u.WarmedH U.vm) (hq : ∀ a : Nat, a < u.heap.size → ¬ (G.2.2.1 ≤ a) → U.heap[a]? = u.heap[a]?) (h : GokX G u) : GokX G U :=
  ⟨fun q hk => (h.1 q hk).warmM hW, fun q hk => (h.2.1 q hk).warmC hW, fun q hk => (h.2.2.1 q hk).warmD hW, fun q hk => (h.2.2.2.1 q hk).moved hW.alike, fun q hk => (h.2.2.2.2.1 q hk).moved hW.alike, vx_Zq.moved hW.alike (h.2.2.2.2.2.1.kept hq), vx_Zq.moved hW.alike (h.2.2.2.2.2.2.kept hq)⟩
def Gok (G : Gx) (U : State) : Prop :=
  G.n0 ≤ U.heap.size ∧ (∀ (k : Nat) (q : vw_C), cls[k]? = some q → u_Kn U q.1 q.2.1 q.2.2 (G.2.1.1 k) (G.2.1.2 k)) ∧
  (∀ (i : Nat) (q : String × String × String), sts[i]? = some q → va_Z q.1 q.2.1 q.2.2 (G.st i) (nw G) U U.heap) ∧
  (∀ (i a : Nat) (q : String × String × String), ofs[i]? = some q → G.of i a ≠ un → va_OF q.1 q.2.1 q.2.2 (G.of i a) a (nw G) U U.heap) ∧
  (∀ (i a : Nat) (q : String), ocs[i]? = some q → G.oc a = i + 1 → va_O q a (nw G) U U.heap) ∧
  (∀ (i : Nat) (q : String × Nat × String), lits[i]? = some q → vk_R q.1 q.2.1 q.2.2 (G.lit i) U) ∧ GokX G U
theorem cok.moved {G : Gx} {u U : State} {H : Heap} {a : Nat} {q : Nat × Nat} {f : Nat → Value} (hvm : u.vm.Alike U.vm) (h : cok G u H a q f) : cok G U H a q f := by
  refine ⟨h.1, fun h1 => ?_⟩
  obtain ⟨cell, h2, h3, h4, h5, h6, h7, h8⟩ := h.2 h1
  exact ⟨cell, h2, State.isArrayOf_alike hvm h3, h4, h5, h6, h7, fun z => (h8 z).moved hvm⟩
theorem Rel.moved {G : Gx} {h : Hp} {u U : State} {H : Heap} (hvm : u.vm.Alike U.vm) (x : Rel G h u H) : Rel G h U H := ⟨x.1, x.2.1, fun a => (x.2.2 a).moved hvm⟩
theorem Gok.moved {G : Gx} {u U : State} (hW : u.WarmedH U.vm) (hsz : u.heap.size ≤ U.heap.size) (hq : ∀ a : Nat, a < u.heap.size → ¬ nw G a → U.heap[a]? = u.heap[a]?) (h : Gok G u) : Gok G U :=
  ⟨Nat.le_trans h.1 hsz, fun k q hk => u_Kn_moved hW.alike (h.2.1 k q hk), fun i q hi => va_Z.moved hW.alike ((h.2.2.1 i q hi).kept hq), fun i a q hi ha => va_OF.moved hW.alike ((h.2.2.2.1 i a q hi ha).kept hq), fun i a q hi ha => va_O.moved hW.alike ((h.2.2.2.2.1 i a q hi ha).kept hq), fun i q hi => (h.2.2.2.2.2.1 i q hi).warm hW, h.2.2.2.2.2.2.moved hW hq⟩
/-- what is at a method's end -/
def QcP (G : Gx) (Post : Res → Hp → Prop) : Array Value → State → Outcome → State → Prop := fun _ st o t => ∃ (v : Option Value) (h' : Hp), o = .returned v ∧ Post (.inl v) h' ∧ Rel G h' t t.heap ∧ va_F (nw G) st t
def XCP (G : Gx) (Post : Res → Hp → Prop) : String → State → State → Prop := fun E st t => ∃ h' : Hp, Post (.inr E) h' ∧ Rel G h' t t.heap ∧ va_F (nw G) st t
def PcP (G : Gx) (args : List Value) (h : Hp) : Array Value → State → Prop := fun v U => v = args.toArray ∧ Gok G U ∧ Rel G h U U.heap
/-- a method's contract -/
def EvM (G : Gx) (r : Mr) (args : List Value) (h : Hp) (Post : Res → Hp → Prop) : Prop := vx_Met G.1 r.1 r.ws r.rm (PcP G args h) (QcP G Post) (XCP G Post) r.mc r.ms (nw G)
/-- where one is, in a method -/
def FrC (G : Gx) (r : Mr) (p : Program) (s : State) (m : MethodId) (args : Array Value) (meth : Method) (c : Code) : Prop :=
  p.tables.exec = Jvm.exec ∧ c.code = r.2.1 ∧ meth.sig.returnType = r.rt ∧ c.maxLocals = r.ml ∧ s.vm.findClass r.1.cls = some m.cls ∧ (∀ w ∈ lw_good, w.before args s = true) ∧ meth.locks = false ∧ meth.name = r.1.name ∧ Gok G s ∧ (∀ x ∈ c.exceptionTable.toList, False)
/-- locals: what is known of them -/
def LR (n : Nat) (ls : Array Slot) (L : List Value) : Prop := ls.size = n ∧ lv_wf ls ∧ L.length = n ∧ ∀ (i : Nat) (v : Value), L[i]? = some v → v ≠ un → v.category = 1 ∧ ls[i]? = some (.val v)
def Ev (G : Gx) (r : Mr) (pc : Nat) (L st : List Value) (h : Hp) (cs ss : Nat) (Post : Res → Hp → Prop) : Prop :=
  ∀ (p : Program) (e : Env) (s : State) (m : MethodId) (args : Array Value) (below : List Frame) (meth : Method) (c : Code) (ls : Array Slot) (H : Heap) (locs : List Loc),
    FrC G r p s m args meth c → LR r.ml ls L → Rel G h s H → va_S (nw G) s.heap H locs → cs ≤ r.mc → ss ≤ r.ms →
    W p G.1 e r.rm s m args below meth c H locs cs ss (vx_MQ below (QcP G Post) (XCP G Post) args s r.mc r.ms (nw G)) (F0 m pc ls st)
theorem LR.get {n : Nat} {ls : Array Slot} {L : List Value} (h : LR n ls L) {i : Nat} {v : Value} (hi : L[i]? = some v) (hv : v ≠ un) : ls[i]? = some (.val v) := (h.2.2.2 i v hi hv).2
theorem LR.kill {n : Nat} {ls : Array Slot} {L : List Value} (h : LR n ls L) (d : Nat) : LR n ls (L.set d un) := by
  refine ⟨h.1, h.2.1, by simpa using h.2.2.1, fun i v hi hv => ?_⟩
  rw [List.getElem?_set] at hi
  by_cases hd : d = i
  · rw [if_pos hd] at hi
    split at hi
    · exact absurd (Option.some.inj hi).symm hv
    · cases hi
  · rw [if_neg hd] at hi
    exact h.2.2.2 i v hi hv
theorem LR.set {n : Nat} {ls : Array Slot} {L : List Value} (h : LR n ls L) {i : Nat} {v : Value} (hi : i < n) (hc : v.category = 1) : ∃ ls', storeLocals ls i v = some ls' ∧ LR n ls' (L.set i v) := by
  have hh : lv_has ls n ((List.range n).filterMap fun j => match L[j]? with | some w => if w = un then none else some (j, w) | none => none) := by
    refine ⟨h.1, h.2.1, fun q hq => ?_⟩
    obtain ⟨j, -, hj⟩ := List.mem_filterMap.mp hq
    split at hj
    · rename_i w hw
      split at hj
      · cases hj
      · rename_i hne
        cases hj
        exact (h.2.2.2 j w hw hne).2
    · cases hj
  obtain ⟨ls', h1, h2⟩ := lv_store1 (v := v) hh hi hc
  refine ⟨ls', h1, h2.1, h2.2.1, by simpa using h.2.2.1, fun j w hj hw => ?_⟩
  rw [List.getElem?_set] at hj
  by_cases hd : i = j
  · rw [if_pos hd] at hj
    split at hj
    · cases hj
      subst hd
      exact ⟨hc, h2.2.2 (i, v) List.mem_cons_self⟩
    · cases hj
  · rw [if_neg hd] at hj
    obtain ⟨c1, -⟩ := h.2.2.2 j w hj hw
    refine ⟨c1, h2.2.2 (j, w) (List.mem_cons_of_mem _ (List.mem_filter.mpr ⟨List.mem_filterMap.mpr ⟨j, List.mem_range.mpr ?_, ?_⟩, ?_⟩))⟩
    · rw [← h.2.2.1]
      exact (List.getElem?_eq_some_iff.mp hj).1
    · rw [hj]
      simp only
      rw [if_neg hw]
    · have : ¬ w.category = 2 := by omega
      simp [Ne.symm hd, this]
