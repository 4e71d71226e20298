/-! ===== what a program decides of a method's table ===== -/
def chunk (c : Nat) : List Cond := match c with
  | 0 => tables_1_1
  | 1 => tables_1_2
  | 2 => tables_1_3
  | 3 => tables_1_4
  | 4 => tables_1_5
  | 5 => tables_1_6
  | 6 => tables_1_7
  | 7 => tables_1_8
  | 8 => tables_1_9
  | _ => tables_1_10
def privc (c : Nat) : List (MethodName × Nat) := match c with
  | 0 => lw_privs_1
  | 1 => lw_privs_2
  | 2 => lw_privs_3
  | 3 => lw_privs_4
  | 4 => lw_privs_5
  | 5 => lw_privs_6
  | 6 => lw_privs_7
  | 7 => lw_privs_8
  | _ => lw_privs_9
def wd (k : Nat) (w : Cond) : Bool := (if k < 133 then (match (privc (k / 16))[k % 16]? with | some q => decide (Cond.selects q.1.cls q.1 q.1 = w) | none => false) else decide ((chunk ((k - 133) / 240))[(k - 133) % 240]? = some w)) && goodWord w
theorem chunk_in (c : Nat) : ∀ w ∈ chunk c, w ∈ lw_tbl := by
  intro w hw
  refine List.mem_append_right _ ?_
  show w ∈ tables_1_1 ++ (tables_1_2 ++ (tables_1_3 ++ (tables_1_4 ++ (tables_1_5 ++ (tables_1_6 ++ (tables_1_7 ++ (tables_1_8 ++ (tables_1_9 ++ tables_1_10))))))))
  simp only [List.mem_append]
  unfold chunk at hw
  split at hw
  · exact Or.inl hw
  · exact Or.inr (Or.inl hw)
  · exact Or.inr (Or.inr (Or.inl hw))
  · exact Or.inr (Or.inr (Or.inr (Or.inl hw)))
  · exact Or.inr (Or.inr (Or.inr (Or.inr (Or.inl hw))))
  · exact Or.inr (Or.inr (Or.inr (Or.inr (Or.inr (Or.inl hw)))))
  · exact Or.inr (Or.inr (Or.inr (Or.inr (Or.inr (Or.inr (Or.inl hw))))))
  · exact Or.inr (Or.inr (Or.inr (Or.inr (Or.inr (Or.inr (Or.inr (Or.inl hw)))))))
  · exact Or.inr (Or.inr (Or.inr (Or.inr (Or.inr (Or.inr (Or.inr (Or.inr (Or.inl hw))))))))
  · exact Or.inr (Or.inr (Or.inr (Or.inr (Or.inr (Or.inr (Or.inr (Or.inr (Or.inr hw))))))))
theorem privc_in (c : Nat) : ∀ q ∈ privc c, q ∈ lw_privs := by
  intro q hq
  show q ∈ lw_privs_1 ++ (lw_privs_2 ++ (lw_privs_3 ++ (lw_privs_4 ++ (lw_privs_5 ++ (lw_privs_6 ++ (lw_privs_7 ++ (lw_privs_8 ++ (lw_privs_9))))))))
  simp only [List.mem_append]
  unfold privc at hq
  split at hq
  · exact Or.inl hq
  · exact Or.inr (Or.inl hq)
  · exact Or.inr (Or.inr (Or.inl hq))
  · exact Or.inr (Or.inr (Or.inr (Or.inl hq)))
  · exact Or.inr (Or.inr (Or.inr (Or.inr (Or.inl hq))))
  · exact Or.inr (Or.inr (Or.inr (Or.inr (Or.inr (Or.inl hq)))))
  · exact Or.inr (Or.inr (Or.inr (Or.inr (Or.inr (Or.inr (Or.inl hq))))))
  · exact Or.inr (Or.inr (Or.inr (Or.inr (Or.inr (Or.inr (Or.inr (Or.inl hq)))))))
  · exact Or.inr (Or.inr (Or.inr (Or.inr (Or.inr (Or.inr (Or.inr (Or.inr hq)))))))
theorem wd_ok {k : Nat} {w : Cond} (h : wd k w = true) : w ∈ lw_good := by
  unfold wd at h
  rw [Bool.and_eq_true] at h
  refine List.mem_filter.mpr ⟨?_, h.2⟩
  have h1 := h.1
  split at h1
  · split at h1
    · rename_i q hq
      rw [← of_decide_eq_true h1]
      exact List.mem_append_left _ (List.mem_map.mpr ⟨q, privc_in _ q (List.mem_of_getElem? hq), rfl⟩)
    · cases h1
  · exact chunk_in _ w (List.mem_of_getElem? (of_decide_eq_true h1))
def pcAt (tb : List Ent) (j : Nat) : Nat := match tb[j]? with | some e => e.1 | none => 1000000
def n4 (a : Nat) (f : Fin 4 → Bool) : Bool := if h : a < 4 then f ⟨a, h⟩ else false
theorem n4_ok {a : Nat} {f : Fin 4 → Bool} (h : n4 a f = true) : ∃ k : Fin 4, (k : Nat) = a ∧ f k = true := by
  unfold n4 at h
  split at h
  · exact ⟨⟨a, ‹_›⟩, rfl, h⟩
  · cases h
def kdC (kd : Nat) (C : String) : Bool := if kd < 200 then (match cls[kd - 1]? with | some q => decide (1 ≤ kd) && decide (q.1 = C) | none => false) else decide (201 ≤ kd) && decide (ocs[kd - 201]? = some C)
def refT (o : Option FieldType) : Bool := match o with | some (.object _) => true | some (.array _) => true | _ => false
def binI (a : Nat) : Instr := match a with
  | 0 => .iadd
  | 1 => .isub
  | 2 => .imul
  | 3 => .iand
  | 4 => .ior
  | 5 => .ixor
  | 6 => .ishl
  | 7 => .ishr
  | _ => .iushr
def unI (a : Nat) : Instr := match a with
  | 0 => .ineg
  | 1 => .i2b
  | _ => .i2c
def arrT (a : Nat) : ArrayType := match a with
  | 0 => .int
  | 1 => .boolean
  | 2 => .byte
  | _ => .long
/-- method's class, name, bytes, locals, answer; callees; switches; the table; a place; what stands there -/
def eok (own nm : String) (bytes : ByteArray) (ml : Nat) (rt : Option FieldType) (cl : List (MethodName × Nat × Nat)) (sw : List (List Nat)) (tb : List Ent) (i pc : Nat) (ins : Instr) (len op a b c w : Nat) (v : Int32) : Bool :=
  decide (decode bytes pc = .ok (ins, len)) && (match op with
  | 1 => decide (pcAt tb (i + 1) = pc + len) && (decide (ins = .iload a ∧ len = 2) || n4 a (fun k => decide (ins = .iload_n k ∧ len = 1)))
  | 2 => decide (pcAt tb (i + 1) = pc + len) && (decide (ins = .aload a ∧ len = 2) || n4 a (fun k => decide (ins = .aload_n k ∧ len = 1)))
  | 3 => decide (pcAt tb (i + 1) = pc + len) && decide (a < ml) && (decide (ins = .istore a ∧ len = 2) || n4 a (fun k => decide (ins = .istore_n k ∧ len = 1)))
  | 4 => decide (pcAt tb (i + 1) = pc + len) && decide (a < ml) && (decide (ins = .astore a ∧ len = 2) || n4 a (fun k => decide (ins = .astore_n k ∧ len = 1)))
  | 5 => decide (pcAt tb (i + 1) = pc + len) && (decide (ins = .iconst v.toInt ∧ len = 1 ∧ Int32.ofInt v.toInt = v) || decide (ins = .bipush v.toInt ∧ len = 2 ∧ (Int8.ofInt v.toInt).toInt32 = v) || decide (ins = .sipush v.toInt ∧ len = 3 ∧ (Int16.ofInt v.toInt).toInt32 = v) || (decide (ins = .ldc b ∧ len = 2) && wd w (.constant own b v)) || (decide (ins = .ldc_w b ∧ len = 3) && wd w (.constant own b v)))
  | 6 => decide (pcAt tb (i + 1) = pc + len) && decide (a < ml) && decide (ins = .iinc a v.toInt ∧ len = 3 ∧ Int32.ofInt v.toInt = v)
  | 7 => decide (pcAt tb (i + 1) = pc + len) && decide (ins = binI a ∧ len = 1)
  | 8 => decide (pcAt tb (i + 1) = pc + len) && decide (ins = .idiv ∧ len = 1)
  | 9 => decide (pcAt tb (i + 1) = pc + len) && decide (ins = .irem ∧ len = 1)
  | 10 => decide (pcAt tb (i + 1) = pc + len) && decide (ins = unI a ∧ len = 1)
  | 11 => decide (pcAt tb (i + 1) = pc + len) && decide (ins = .i2l ∧ len = 1)
  | 12 => decide (pcAt tb (i + 1) = pc + len) && decide (ins = .lcmp ∧ len = 1)
  | 13 => decide (pcAt tb (i + 1) = pc + len) && (decide (a = 0 ∧ ins = .lconst 0 ∧ len = 1) || decide (a = 1 ∧ ins = .lconst 1 ∧ len = 1))
  | 14 => decide (pcAt tb (i + 1) = pc + len) && decide (ins = .dup ∧ len = 1)
  | 15 => decide (pcAt tb (i + 1) = pc + len) && decide (ins = .dup2 ∧ len = 1)
  | 16 => decide (pcAt tb (i + 1) = pc + len) && decide (ins = .pop ∧ len = 1)
  | 17 => decide (pcAt tb (i + 1) = pc + len) && decide (ins = .ifCond (cndI a) ((pcAt tb b : Int) - pc) ∧ len = 3)
  | 18 => decide (pcAt tb (i + 1) = pc + len) && decide (ins = .if_icmp (cndI a) ((pcAt tb b : Int) - pc) ∧ len = 3)
  | 19 => decide (pcAt tb (i + 1) = pc + len) && (decide (a = 0 ∧ ins = .if_acmp .eq ((pcAt tb b : Int) - pc) ∧ len = 3) || decide (a = 1 ∧ ins = .if_acmp .ne ((pcAt tb b : Int) - pc) ∧ len = 3))
  | 20 => decide (ins = .goto ((pcAt tb b : Int) - pc) ∧ len = 3)
  | 21 => match sw[a]? with | some ts => decide (ins = .tableswitch ((pcAt tb b : Int) - pc) v.toInt (v.toInt + ts.length - 1) (ts.map (fun t => (pcAt tb t : Int) - pc)).toArray) && decide (-1000 ≤ v.toInt) && decide (v.toInt ≤ 1000) && decide (ts.length ≤ 1000) | none => false
  | 22 => decide (pcAt tb (i + 1) = pc + len) && decide (len = 3) && (match ins, cls[a]? with | .getfield x, some q => decide (b < q.2.2) && wd w (.fieldLink own x (q.2.1 b).1 (q.2.1 b).2.1 (q.2.1 b).2.2.1) | _, _ => false)
  | 23 => decide (pcAt tb (i + 1) = pc + len) && decide (len = 3) && (match ins, cls[a]? with | .getfield x, some q => decide (b < q.2.2) && wd w (.fieldLink own x (q.2.1 b).1 (q.2.1 b).2.1 (q.2.1 b).2.2.1) | _, _ => false)
  | 24 => decide (pcAt tb (i + 1) = pc + len) && decide (len = 3) && (match ins, cls[a]? with
    | .putfield x, some q => decide (b < q.2.2) && wd w (.fieldLink own x (q.2.1 b).1 (q.2.1 b).2.1 (q.2.1 b).2.2.1) && (!(q.2.1 b).2.2.2 || (decide (nm = "<init>") && decide ((q.2.1 b).1 = own))) &&
      (if c = 0 then decide (parseFieldDescriptor (q.2.1 b).2.2.1 = some .int) else if c = 1 then decide (parseFieldDescriptor (q.2.1 b).2.2.1 = some .boolean) else refT (parseFieldDescriptor (q.2.1 b).2.2.1))
    | _, _ => false)
  | 25 => decide (pcAt tb (i + 1) = pc + len) && decide (len = 1) && (decide (a = 101 ∧ ins = .iaload) || decide (a = 102 ∧ ins = .baload) || decide (a = 103 ∧ ins = .baload))
  | 26 => decide (pcAt tb (i + 1) = pc + len) && decide (len = 1) && decide (105 ≤ a ∧ ins = .aaload)
  | 27 => decide (pcAt tb (i + 1) = pc + len) && decide (len = 1 ∧ ins = .laload)
  | 28 => decide (pcAt tb (i + 1) = pc + len) && decide (len = 1 ∧ ins = .iastore)
  | 29 => decide (pcAt tb (i + 1) = pc + len) && decide (len = 1 ∧ ins = .bastore)
  | 30 => decide (pcAt tb (i + 1) = pc + len) && decide (len = 1 ∧ ins = .bastore)
  | 31 => decide (pcAt tb (i + 1) = pc + len) && decide (len = 1 ∧ ins = .lastore)
  | 32 => decide (pcAt tb (i + 1) = pc + len) && decide (len = 1 ∧ ins = .aastore) && (decide (a = 105 ∧ b = 201) || decide (a = 106 ∧ b = 8))
  | 33 => decide (pcAt tb (i + 1) = pc + len) && decide (len = 1 ∧ ins = .arraylength) && decide (101 ≤ a)
  | 34 => decide (pcAt tb (i + 1) = pc + len) && decide (len = 3) && (match ins, cls[a]? with | .new x, some q => wd w (.classLink own x q.1) && wd b (.instantiable q.1 q.2.2) && wd c (.initialized q.1) | _, _ => false)
  | 35 => decide (pcAt tb (i + 1) = pc + len) && decide (len = 2 ∧ ins = .newarray (arrT a) ∧ a < 4) && wd w (.arrayClass (aty a))
  | 36 => decide (pcAt tb (i + 1) = pc + len) && decide (len = 3) && (match ins with | .anewarray x => (decide (a = 4) && wd w (.classLink own x "GripEstates$Token")) || (decide (a = 5) && wd w (.classLink own x "GripEstates$Valley")) | _ => false)
  | 37 => decide (pcAt tb (i + 1) = pc + len) && decide (len = 3) && (match ins, sts[a]? with | .getstatic x, some q => wd w (.fieldLink own x q.1 q.2.1 q.2.2) | _, _ => false)
  | 38 => decide (pcAt tb (i + 1) = pc + len) && decide (len = 3) && (match ins, ofs[a]? with | .getfield x, some q => wd w (.fieldLink own x q.1 q.2.1 q.2.2) | _, _ => false)
  | 39 => decide (pcAt tb (i + 1) = pc + len) && (match ins, lits[a]? with | .ldc x, some q => decide (len = 2 ∧ q.1 = own ∧ q.2.1 = x) | .ldc_w x, some q => decide (len = 3 ∧ q.1 = own ∧ q.2.1 = x) | _, _ => false)
  | 40 => decide (pcAt tb (i + 1) = pc + len) && decide (len = 3) && (match cl[a]? with
    | some q => (match ins, c with | .invokestatic x, 0 => wd w (.methodLink own x q.1) && decide (q.2.2 = 0) | .invokevirtual x, c + 1 => wd w (.methodLink own x q.1) && kdC (c + 1) q.1.cls && decide (q.2.2 = 1) | _, _ => false)
    | none => false)
  | 41 => decide (pcAt tb (i + 1) = pc + len) && decide (len = 3) && (match cl[a]? with
    | some q => (match ins, c with | .invokestatic x, 0 => wd w (.methodLink own x q.1) && decide (q.2.2 = 0) | .invokevirtual x, c + 1 => wd w (.methodLink own x q.1) && kdC (c + 1) q.1.cls && decide (q.2.2 = 1) | _, _ => false)
    | none => false)
  | 42 => decide (pcAt tb (i + 1) = pc + len) && decide (len = 3) && (match cl[a]? with
    | some q => (match ins, c with | .invokestatic x, 0 => wd w (.methodLink own x q.1) && decide (q.2.2 = 0) | .invokevirtual x, c + 1 => wd w (.methodLink own x q.1) && kdC (c + 1) q.1.cls && decide (q.2.2 = 1) | _, _ => false)
    | none => false)
  | 43 => decide (pcAt tb (i + 1) = pc + len) && decide (len = 3) && (match cl[a]? with
    | some q => (match ins, c with | .invokestatic x, 0 => wd w (.methodLink own x q.1) && decide (q.2.2 = 0) | .invokevirtual x, c + 1 => wd w (.methodLink own x q.1) && kdC (c + 1) q.1.cls && decide (q.2.2 = 1) | _, _ => false)
    | none => false)
  | 44 => decide (pcAt tb (i + 1) = pc + len) && decide (len = 3) && (match ins, cl[a]? with | .invokespecial x, some q => (wd w (.methodLink own x q.1) || decide ((own, x, q.1, "GripEstates") ∈ nests)) && decide (q.2.2 = 2) | _, _ => false)
  | 46 => decide (pcAt tb (i + 1) = pc + len) && decide (len = 3) && (match ins with | .invokespecial x => wd w (.methodLink own x objectInit) | _ => false)
  | 47 => decide (len = 1 ∧ ins = .ireturn) && (match c with | 0 => decide (rt = some .int) | 1 => decide (rt = some .boolean) | 2 => decide (rt = some .byte) | _ => decide (rt = some .char))
  | 48 => decide (len = 1 ∧ ins = .areturn) && (match rt with | some (.object _) => true | _ => false)
  | 49 => decide (len = 1 ∧ ins = .return_ ∧ rt = none)
  | 50 => decide (len = 3 ∧ decode bytes (pc + 3) = .ok (.dup, 1) ∧ decode bytes (pc + 4) = .ok (.invokespecial b, 3) ∧ decode bytes (pc + 7) = .ok (.athrow, 1)) && (match ins with | .new x => xOK own x b (excs a) | _ => false)
  | 51 => decide (pcAt tb (i + 1) = pc + len) && decide (len = 3) && (match ins with | .invokestatic x => wd w (.methodLink own x arraycopyName) | _ => false)
  | 52 => decide (pcAt tb (i + 1) = pc + len) && decide (len = 3) && (match ins with | .invokevirtual x => wd w (.methodLink own x ⟨"[I", "clone", "()Ljava/lang/Object;"⟩) | _ => false)
  | 53 => decide (pcAt tb (i + 1) = pc + len) && decide (len = 3) && (match ins with | .checkcast x => wd w (.classLink own x "[I") | _ => false)
  | 54 => decide (pcAt tb (i + 1) = pc + len) && decide (len = 3) && (match ins with | .invokestatic x => wd w (.methodLink own x Lib.Math.max.name) | _ => false)
  | 55 => decide (pcAt tb (i + 1) = pc + len) && decide (len = 3) && (match ins with | .invokestatic x => wd w (.methodLink own x Lib.Math.min.name) | _ => false)
  | 99 => true
  | _ => false)
/-- what is asked of a callee -/
def cOK (q : Mr) (n f : Nat) : Prop := Cond.code q.1 q.2.1 q.ml q.rt ∈ lw_good ∧ Cond.initialized q.1.cls ∈ lw_good ∧ plainB q.1 n = true ∧ q.ml ≤ 45 ∧ (f = 0 → Cond.static q.1 ∈ lw_good) ∧ (f = 1 → Cond.instanceMethod q.1 ∈ lw_good ∧ Cond.selects q.1.cls q.1 q.1 ∈ lw_good) ∧ (f = 2 → Cond.instanceMethod q.1 ∈ lw_good ∧ q.1.name = "<init>" ∧ q.rt = none)
def TOK (r : Mr) (cl : List (Mr × Nat × Nat)) (sw : List (List Nat)) (tb : List Ent) : Prop :=
  (∀ (i : Nat) (e : Ent), tb[i]? = some e → eok r.1.cls r.1.name r.2.1 r.ml r.rt (cl.map fun q => (q.1.1, q.2.1, q.2.2)) sw tb i e.1 e.2.1 e.2.2.1 e.2.2.2.1 e.2.2.2.2.1 e.2.2.2.2.2.1 e.2.2.2.2.2.2.1 e.2.2.2.2.2.2.2.1 e.2.2.2.2.2.2.2.2 = true) ∧ ∀ q ∈ cl, cOK q.1 q.2.1 q.2.2 ∧ q.1.dp + 1 ≤ r.dp
/-- in one go -/
def tokB (own nm : String) (bytes : ByteArray) (ml : Nat) (rt : Option FieldType) (cl : List (MethodName × Nat × Nat)) (sw : List (List Nat)) (tb : List Ent) : Bool := tb.zipIdx.all (fun z => eok own nm bytes ml rt cl sw tb z.2 z.1.1 z.1.2.1 z.1.2.2.1 z.1.2.2.2.1 z.1.2.2.2.2.1 z.1.2.2.2.2.2.1 z.1.2.2.2.2.2.2.1 z.1.2.2.2.2.2.2.2.1 z.1.2.2.2.2.2.2.2.2)
theorem tokB_ok {own nm : String} {bytes : ByteArray} {ml : Nat} {rt : Option FieldType} {cl : List (MethodName × Nat × Nat)} {sw : List (List Nat)} {tb : List Ent} (h : tokB own nm bytes ml rt cl sw tb = true) : ∀ (i : Nat) (e : Ent), tb[i]? = some e → eok own nm bytes ml rt cl sw tb i e.1 e.2.1 e.2.2.1 e.2.2.2.1 e.2.2.2.2.1 e.2.2.2.2.2.1 e.2.2.2.2.2.2.1 e.2.2.2.2.2.2.2.1 e.2.2.2.2.2.2.2.2 = true := by
  intro i e hi
  exact List.all_eq_true.mp h (e, i) (by rw [List.mem_zipIdx_iff_getElem?]; exact hi)
