/-! ===== methods with handlers ===== -/
section VXC
variable {p : Program} {l : Launch} {e : Env} {R : Room} {s : State} {m : MethodId} {args : Array Value} {below : List Frame} {meth : Method} {c : Code} {H : Heap} {locs : List Loc} {cells slots : Nat} {Q : State → Prop}
variable {mc ms : Nat} {free : Addr → Prop} {A0 A1 : Nat → Prop} {H0 : Heap} {a : Array Value} {pc : Nat} {ls : Array Slot} {st0 rest : List Value}
theorem vx_catch {own name : String} {E : String} {ce : Cell} {q : Addr} (hown : s.vm.findClass own = some m.cls) (pre : List ExceptionTableEntry) (x : ExceptionTableEntry) (suf : List ExceptionTableEntry) (hsplit : c.exceptionTable.toList = pre ++ x :: suf)
    (hpass : ∀ z ∈ pre, covers z pc = false ∨ (z.catchType ≠ 0 ∧ ∃ nm : String, (Cond.classLink own z.catchType nm).before args s = true ∧ va_Nc E nm s)) (hx : covers x pc = true) (h0 : x.catchType ≠ 0)
    (hlink : (Cond.classLink own x.catchType name).before args s = true) (hcast : (Cond.castable E name).before args s = true) (hcell : H[q]? = some ce) (hv : ce.vm = .none) (hcl : s.vm.findClass E = some ce.cls)
    (kk : W p l e R s m args below meth c H locs cells slots Q (F0 m x.handlerPc ls [.ref q])) : vx_W p l e R s m args below meth c H locs cells slots Q (F0 m pc ls rest) q := by
  intro T hT X
  have hpl : e.platform.magicAccessors = ({} : Platform).magicAccessors := by rw [X.admits.platform]
  obtain ⟨c3, c4, hc3, hc4, hasg⟩ := Cond.castable_spec hcast
  cases Option.some.inj (hc3.symm.trans hcl)
  obtain ⟨c5, hc5, hcl5⟩ := Cond.classLink_spec hown hlink e.platform hpl
  cases Option.some.inj (hc4.symm.trans hc5)
  obtain ⟨vm', X', st⟩ := X.thenCaughtThrough q (g := F0 m pc ls rest) rfl (Steps.refl _) (by rw [hT]; exact hcell) (by rw [hv]; rfl) (by obtain ⟨k9, h9, -⟩ := Vm.findClass_spec hcl; exact ⟨k9, h9⟩) pre x suf hsplit
    (fun z hz => by
      rcases hpass z hz with h | ⟨hz0, nm, hl1, hn1⟩
      · exact Or.inl h
      · obtain ⟨c6, hc6, hcl6⟩ := Cond.classLink_spec hown hl1 e.platform hpl
        obtain ⟨a8, b8, h1, h2, h3⟩ := hn1
        cases Option.some.inj (h1.symm.trans hcl)
        cases Option.some.inj (h2.symm.trans hc6)
        exact Or.inr ⟨hz0, _, hcl6, h3⟩) hx (Or.inr ⟨h0, c4, hcl5, hasg⟩)
  obtain ⟨t, a1, b1⟩ := kk (T.setVm vm') hT X'
  exact ⟨t, st.trans a1, b1⟩
end VXC
abbrev Hd : Type := List (Nat × Nat × Nat × Nat)
/-- where one is, in a method with handlers -/
def FrH (G : Gx) (r : Mr) (hh : Hd) (p : Program) (s : State) (m : MethodId) (args : Array Value) (meth : Method) (c : Code) : Prop :=
  p.tables.exec = Jvm.exec ∧ c.code = r.2.1 ∧ meth.sig.returnType = r.rt ∧ c.maxLocals = r.ml ∧ s.vm.findClass r.1.cls = some m.cls ∧ (∀ w ∈ lw_good, w.before args s = true) ∧ meth.locks = false ∧ True ∧ Gok G s ∧ c.exceptionTable.toList = tableOf hh
def EvH (G : Gx) (r : Mr) (hh : Hd) (pc : Nat) (L st : List Value) (h : Hp) (cs ss : Nat) (Post : Res → Hp → Prop) : Prop :=
  ∀ (p : Program) (e : Env) (s : State) (m : MethodId) (args : Array Value) (below : List Frame) (meth : Method) (c : Code) (ls : Array Slot) (H : Heap) (locs : List Loc),
    FrH G r hh p s m args meth c → LR r.ml ls L → Rel G h s H → va_S (nw G) s.heap H locs → cs ≤ r.mc → ss ≤ r.ms →
    W p G.1 e r.rm s m args below meth c H locs cs ss (vx_MQ below (QcP G Post) (XCP G Post) args s r.mc r.ms (nw G)) (F0 m pc ls st)
def Mr.wsH (r : Mr) (hh : Hd) : List Cond := Cond.codeWith r.1 r.2.1 r.ml r.rt hh :: lw_good
def EvMH (G : Gx) (r : Mr) (hh : Hd) (args : List Value) (h : Hp) (Post : Res → Hp → Prop) : Prop := vx_Met G.1 r.1 (r.wsH hh) r.rm (PcP G args h) (QcP G Post) (XCP G Post) r.mc r.ms (nw G)
section EVH
variable {G : Gx} {r q : Mr} {hh : Hd} {pc : Nat} {L st : List Value} {h : Hp} {cs ss : Nat} {Post P1 : Res → Hp → Prop}
theorem eh_iloadn {i : Nat} {x : Int32} {j : Fin 4} (hj : (j : Nat) = i) (hd : decode r.2.1 pc = .ok (.iload_n j, 1)) (hL : L[i]? = some (.int x)) (k : EvH G r hh (pc + 1) L (.int x :: st) h cs ss Post) : EvH G r hh pc L st h cs ss Post :=
  fun p e s m args below meth c ls H locs F hl hR hS h1 h2 => lv_iload_n F.1 F.2.1 hd hj (hl.get hL (un_int x)) (k p e s m args below meth c ls H locs F hl hR hS h1 h2)
theorem eh_aload {i : Nat} {x : Nat} (hd : decode r.2.1 pc = .ok (.aload i, 2)) (hL : L[i]? = some (.ref x)) (k : EvH G r hh (pc + 2) L (.ref x :: st) h cs ss Post) : EvH G r hh pc L st h cs ss Post :=
  fun p e s m args below meth c ls H locs F hl hR hS h1 h2 => lv_aload F.1 F.2.1 hd (hl.get hL (un_ref x)) (k p e s m args below meth c ls H locs F hl hR hS h1 h2)
theorem eh_aloadn {i : Nat} {x : Nat} {j : Fin 4} (hj : (j : Nat) = i) (hd : decode r.2.1 pc = .ok (.aload_n j, 1)) (hL : L[i]? = some (.ref x)) (k : EvH G r hh (pc + 1) L (.ref x :: st) h cs ss Post) : EvH G r hh pc L st h cs ss Post :=
  fun p e s m args below meth c ls H locs F hl hR hS h1 h2 => lv_aload_n F.1 F.2.1 hd hj (hl.get hL (un_ref x)) (k p e s m args below meth c ls H locs F hl hR hS h1 h2)
theorem eh_astore {i : Nat} {x : Nat} (hd : decode r.2.1 pc = .ok (.astore i, 2)) (hi : i < r.ml) (k : EvH G r hh (pc + 2) (L.set i (.ref x)) st h cs ss Post) : EvH G r hh pc L (.ref x :: st) h cs ss Post := by
  intro p e s m args below meth c ls H locs F hl hR hS h1 h2
  obtain ⟨ls', e', h'⟩ := hl.set (v := .ref x) hi rfl
  have hexec := F.1
  have hb := F.2.1
  intro T hT X
  obtain ⟨t, a, b⟩ := k p e s m args below meth c ls' H locs F h' hR hS h1 h2 T hT X
  refine ⟨t, ?_, b⟩
  jvm_step X.here [X.here.top, ↓top_set X.here.top, hexec, hb, hd, e']
  exact ⟨rfl, a⟩
theorem eh_astoren {i : Nat} {x : Nat} {j : Fin 4} (hj : (j : Nat) = i) (hd : decode r.2.1 pc = .ok (.astore_n j, 1)) (hi : i < r.ml) (k : EvH G r hh (pc + 1) (L.set i (.ref x)) st h cs ss Post) : EvH G r hh pc L (.ref x :: st) h cs ss Post := by
  intro p e s m args below meth c ls H locs F hl hR hS h1 h2
  subst hj
  obtain ⟨ls', e', h'⟩ := hl.set (v := .ref x) hi rfl
  have hexec := F.1
  have hb := F.2.1
  intro T hT X
  obtain ⟨t, a, b⟩ := k p e s m args below meth c ls' H locs F h' hR hS h1 h2 T hT X
  refine ⟨t, ?_, b⟩
  jvm_step X.here [X.here.top, ↓top_set X.here.top, hexec, hb, hd, e']
  exact ⟨rfl, a⟩
theorem eh_iconst {n : Int} {v : Int32} (hd : decode r.2.1 pc = .ok (.iconst n, 1)) (hv : Int32.ofInt n = v) (k : EvH G r hh (pc + 1) L (.int v :: st) h cs ss Post) : EvH G r hh pc L st h cs ss Post :=
  fun p e s m args below meth c ls H locs F hl hR hS h1 h2 => lv_iconst F.1 F.2.1 hd hv (k p e s m args below meth c ls H locs F hl hR hS h1 h2)
theorem eh_i2l {x : Int32} (hd : decode r.2.1 pc = .ok (.i2l, 1)) (k : EvH G r hh (pc + 1) L (.long (x.toInt64) :: st) h cs ss Post) : EvH G r hh pc L (.int x :: st) h cs ss Post :=
  fun p e s m args below meth c ls H locs F hl hR hS h1 h2 => lv_i2l F.1 F.2.1 hd rfl (k p e s m args below meth c ls H locs F hl hR hS h1 h2)
theorem eh_lconst {n : Fin 2} {v : Int64} (hd : decode r.2.1 pc = .ok (.lconst n, 1)) (hv : Int64.ofNat (n : Nat) = v) (k : EvH G r hh (pc + 1) L (.long v :: st) h cs ss Post) : EvH G r hh pc L st h cs ss Post :=
  fun p e s m args below meth c ls H locs F hl hR hS h1 h2 => lv_lconst F.1 F.2.1 hd hv (k p e s m args below meth c ls H locs F hl hR hS h1 h2)
theorem eh_goto {off : Int} {tgt : Nat} (hd : decode r.2.1 pc = .ok (.goto off, 3)) (ht : (pc : Int) + off = (tgt : Int)) (k : EvH G r hh tgt L st h cs ss Post) : EvH G r hh pc L st h cs ss Post :=
  fun p e s m args below meth c ls H locs F hl hR hS h1 h2 => lv_goto F.1 F.2.1 hd ht (k p e s m args below meth c ls H locs F hl hR hS h1 h2)
theorem eh_if_eq {x : Int32} {off : Int} {tgt : Nat} (hd : decode r.2.1 pc = .ok (.ifCond .eq off, 3)) (ht : (pc : Int) + off = (tgt : Int)) (kt : x = 0 → EvH G r hh tgt L st h cs ss Post) (kf : ¬ x = 0 → EvH G r hh (pc + 3) L st h cs ss Post) : EvH G r hh pc L (.int x :: st) h cs ss Post :=
  fun p e s m args below meth c ls H locs F hl hR hS h1 h2 => lv_if_eq F.1 F.2.1 hd ht (fun q => kt q p e s m args below meth c ls H locs F hl hR hS h1 h2) (fun q => kf q p e s m args below meth c ls H locs F hl hR hS h1 h2)
theorem eh_last {a n : Nat} {i : Int32} {x : Int64} (ha : G.n0 ≤ a) (hkd : h.1 a = (104, n)) (hin : vp_in i n) (hd : decode r.2.1 pc = .ok (.lastore, 1)) (kk : EvH G r hh (pc + 1) L st (hset h a i.toNatClampNeg (.long x)) cs ss Post) : EvH G r hh pc L (.long x :: .int i :: .ref a :: st) h cs ss Post := by
  intro p e s m args below meth c ls H locs F hl hR hS h1 h2
  obtain ⟨cell, q1, q2, q3, q4, q5, q6, q7⟩ := hR.arr (j := 3) hkd
  refine W.last F.1 F.2.1 q1 q2 q3 (not_out hin q4.1) rfl rfl hd fun H' e1 e2 e3 => ?_
  exact kk p e s m args below meth c ls H' _ F hl (hR.putA (j := 3) hkd e2 e3 e1 (isArr_set q2) q3 (by rw [k2_slotsz]; exact q4.new ha) q5 (set_get (q4.new ha) (vp_in_lt hin) q6) q7) (hS.put e2 e3 ha) h1 h2
theorem eh_iret {v : Int32} {ty : FieldType} (ht : r.rt = some ty) (hn : narrow ty (.int v) = .int v) (hd : decode r.2.1 pc = .ok (.ireturn, 1)) (k : Post (.inl (some (.int v))) h) : EvH G r hh pc L [.int v] h cs ss Post := by
  intro p e s m args below meth c ls H locs F hl hR hS h1 h2
  have hlocks := F.2.2.2.2.2.2.1
  refine W.widen (k := r.mc) (n := r.ms) h1 h2 (vx_ret ?_)
  exact W.zret F.1 F.2.1 (F.2.2.1.trans ht) hn (fun t ht hW => ⟨some (.int v), h, rfl, k, by rw [ht]; exact hR.moved hW.alike, hS.F ht⟩) hS.2.2 hd
/-- a class is caught, at a handler -/
def Cat (own : String) (hh : Hd) (pc : Nat) (E : String) (hp : Nat) : Prop := ∃ (pre : List ExceptionTableEntry) (z : ExceptionTableEntry) (suf : List ExceptionTableEntry) (name : String), tableOf hh = pre ++ z :: suf ∧
  (∀ y ∈ pre, y.catchType ≠ 0 ∧ ∃ nm : String, Cond.classLink own y.catchType nm ∈ lw_good ∧ (E, nm) ∈ ncasts) ∧ covers z pc = true ∧ z.catchType ≠ 0 ∧ z.handlerPc = hp ∧ Cond.classLink own z.catchType name ∈ lw_good ∧ (E, name) ∈ casts
theorem eh_callV {idx b : Nat} {As : List Value} (hM : EvM G q (.ref b :: As) h P1) (hcode : Cond.code q.1 q.2.1 q.ml q.rt ∈ lw_good) (hlink : Cond.methodLink r.1.cls idx q.1 ∈ lw_good) (hini : Cond.initialized q.1.cls ∈ lw_good) (hin : Cond.instanceMethod q.1 ∈ lw_good) (hsel : Cond.selects q.1.cls q.1 q.1 ∈ lw_good)
    (hpl : plainB q.1 As.length = true) (hdp : q.dp + 1 ≤ r.dp) (hml : q.ml ≤ 45) (hrcv : rcv G h q.1.cls b) (hst : (st.map fun v => v.category).sum ≤ 8) (hd : decode r.2.1 pc = .ok (.invokevirtual idx, 3)) (hc : cs + q.mc ≤ r.mc) (hs : ss + q.ms ≤ r.ms)
    (k1 : ∀ v h', P1 (.inl v) h' → EvH G r hh (pc + 3) L (v.toList ++ st) h' (cs + q.mc) (ss + q.ms) Post) (k2 : ∀ E h', P1 (.inr E) h' → ∃ hp, Cat r.1.cls hh pc E hp ∧ ∀ a, EvH G r hh hp L [.ref a] h' (cs + q.mc) (ss + q.ms) Post) : EvH G r hh pc L (As.reverse ++ .ref b :: st) h cs ss Post := by
  intro p e s m args below meth c ls H locs F hl hR hS h1 h2
  have hts := F.2.2.2.2.2.1
  have hg := F.2.2.2.2.2.2.2.2.1
  have hr := vx_runV (p := p) (e := e) (R := r.rm) (below := below) (meth := meth) (H := H) (locs := locs) (cells := cs) (slots := ss) (XC := XCP G P1) (free := nw G) (g := F0 m pc ls (As.reverse ++ .ref b :: st)) (rest := st) (C := q.1.cls) (cc := r.2.1) (nL := r.ml) (index := idx) (bytes := q.2.1) (maxL := q.ml) (ret := q.rt) (rm := q.rm) (ws := q.ws) (n := As.length) (b := b) (As := As) ⟨F.1, F.2.1, F.2.2.2.1, F.2.2.2.2.1, hts⟩ hM
    ⟨callB_of As.length hts (ws_good hcode) rfl rfl rfl (hts _ hini) (hts _ hlink) (plain_ok hpl) (room_ok hdp hml), hts _ hin, hts _ hsel⟩
    ⟨PcP.blind G _ h, hrcv.cell hg hR hS, PcP.pre hg hR hS⟩ rfl rfl hl.1 rfl (by show 2 * 0 + _ ≤ 8; omega) hd ⟨hc, hs⟩
  intro T hT X
  rcases hr T hT X with ⟨v, st₀, t, T', Lc, h0, X', hL, e1, e2, ⟨v', h', hv, hP, hR', hF⟩, go⟩ | ⟨a, st₀, t, T', Lc, E, ce, h0, X', hL, e1, e2, ⟨h', hP, hR', hF⟩, hce, hcv, hcl, go⟩
  · cases hv
    obtain ⟨z, k⟩ := hF
    rw [h0] at z k
    obtain ⟨t2, a1, b1⟩ := k1 v h' hP p e s m args below meth c ls T'.heap (locs ++ Lc) F hl (by rw [e1]; exact hR'.moved (by rw [← e2]; exact X'.warmed.alike.symm))
      ⟨Nat.le_trans hS.1 (by rw [e1]; exact z), fun b y1 y2 => by rw [e1, k b (Nat.lt_of_lt_of_le y1 hS.1) y2]; exact hS.2.1 b y1 y2, fun b hb => by
        rcases List.mem_append.mp hb with y | y
        · exact hS.2.2 b y
        · exact hL b y⟩ hc hs T' rfl X'
    exact ⟨t2, go t2 a1, b1⟩
  · obtain ⟨z, k⟩ := hF
    rw [h0] at z k
    have hSx : va_S (nw G) s.heap T'.heap (locs ++ Lc) := ⟨Nat.le_trans hS.1 (by rw [e1]; exact z), fun b y1 y2 => by rw [e1, k b (Nat.lt_of_lt_of_le y1 hS.1) y2]; exact hS.2.1 b y1 y2, fun b hb => by
        rcases List.mem_append.mp hb with y | y
        · exact hS.2.2 b y
        · exact hL b y⟩
    obtain ⟨hp, ⟨pre, zz, suf, name, c1, c2, c3, c4, c5, c6, c7⟩, kx⟩ := k2 E h' hP
    subst c5
    obtain ⟨t2, a1, b1⟩ := vx_catch (l := G.1) (p := p) (e := e) (R := r.rm) (s := s) (m := m) (args := args) (below := below) (meth := meth) (c := c) (ls := ls) (rest := st) (pc := pc) (E := E) (ce := ce) (q := a) (H := T'.heap) (locs := locs ++ Lc) (cells := cs + q.mc) (slots := ss + q.ms) F.2.2.2.2.1 pre zz suf (F.2.2.2.2.2.2.2.2.2.trans c1)
      (fun y hy => by
        obtain ⟨d1, nm, d2, d3⟩ := c2 y hy
        exact Or.inr ⟨d1, nm, hts _ d2, hg.2.2.2.2.2.2.2.2.2.1 _ d3⟩) c3 c4 (hts _ c6) (va_Nw.use rfl (hg.2.2.2.2.2.2.2.1 _ c7)) (by rw [e1]; exact hce) hcv hcl
      (kx a p e s m args below meth c ls T'.heap (locs ++ Lc) F hl (by rw [e1]; exact hR'.moved (by rw [← e2]; exact X'.warmed.alike.symm)) hSx hc hs) T' rfl X'
    exact ⟨t2, go.trans a1, b1⟩
theorem EvMH.of {As : List Value} (hy : plainName r.1.cls = true) (hc : ∀ w ∈ As, w.category = 1) (hn : As.length ≤ r.ml) (k : EvH G r hh 0 (As ++ List.replicate (r.ml - As.length) un) [] h 0 0 Post) : EvMH G r hh As h Post := by
  refine vx_ofWH (cc := r.2.1) (maxL := r.ml) (ret := r.rt) (hh := hh) (ws' := lw_good) hy rfl ?_
  intro p e s m args below meth c s₁ B hml hv
  obtain ⟨rfl, hg, hR⟩ := hv
  have hl := lv_entry As (n := r.ml) (by rw [sl_len As hc]; exact hn)
  rw [lg_entry_eq]
  generalize (lg_sl As ++ List.replicate (r.ml - (lg_sl As).length) Slot.unset).toArray = ls at hl ⊢
  have hts := atoms_spec (ws := r.wsH hh) B.pre
  refine k p e s m As.toArray below meth c ls s.heap [] ⟨B.exec, B.bytes, B.returns, hml, findClass_of_methodNamed B.named, fun w hw => hts w (List.mem_cons_of_mem _ hw), B.notSynchronized, trivial, hg, vx_table (x := r.1) B (hts _ List.mem_cons_self)⟩ ⟨hl.1, hl.2.1, by simp; omega, fun i v hi hv => ?_⟩ hR va_S.rf (Nat.zero_le _) (Nat.zero_le _)
  by_cases hlt : i < As.length
  · rw [List.getElem?_append_left hlt] at hi
    refine ⟨hc v (List.mem_of_getElem? hi), ?_⟩
    have := hl.2.2 (0 + i, v) (args_in As 0 i v hc hi)
    rwa [Nat.zero_add] at this
  · rw [List.getElem?_append_right (by omega)] at hi
    have := (List.getElem?_eq_some_iff.mp hi)
    obtain ⟨z1, z2⟩ := this
    rw [List.getElem_replicate] at z2
    exact absurd z2.symm hv
/-- a static call of such a method -/
theorem ev_callSH {idx : Nat} {As : List Value} (hM : EvMH G q hh As h P1) (hcode : Cond.codeWith q.1 q.2.1 q.ml q.rt hh ∈ lw_good) (hlink : Cond.methodLink r.1.cls idx q.1 ∈ lw_good) (hini : Cond.initialized q.1.cls ∈ lw_good) (hsta : Cond.static q.1 ∈ lw_good)
    (hpl : plainB q.1 As.length = true) (hdp : q.dp + 1 ≤ r.dp) (hml : q.ml ≤ 45) (hst : (st.map fun v => v.category).sum ≤ 8) (hd : decode r.2.1 pc = .ok (.invokestatic idx, 3)) (hc : cs + q.mc ≤ r.mc) (hs : ss + q.ms ≤ r.ms)
    (k1 : ∀ v h', P1 (.inl v) h' → Ev G r (pc + 3) L (v.toList ++ st) h' (cs + q.mc) (ss + q.ms) Post) (k2 : ∀ E h', P1 (.inr E) h' → Post (.inr E) h') : Ev G r pc L (As.reverse ++ st) h cs ss Post := by
  intro p e s m args below meth c ls H locs F hl hR hS h1 h2
  have hts := F.2.2.2.2.2.1
  have hgo : GoodIn lw_good (va_wsS r.1.cls idx q.1 (q.wsH hh)) := good_in (fun w hw => by
    rcases List.mem_append.mp hw with hw | hw
    · simp only [List.mem_cons, List.not_mem_nil, or_false] at hw
      rcases hw with rfl | rfl | rfl
      · exact hlink
      · exact hsta
      · exact hini
    · rcases List.mem_cons.mp hw with rfl | hw
      · exact hcode
      · exact hw)
  refine run_ok F hl hS (q := q) (st0 := As.reverse ++ st) (st := st) (vx_runSX (cc := r.2.1) (nL := r.ml) (index := idx) (bytes := q.2.1) (maxL := q.ml) (ret := q.rt) (hh := hh) (rm := q.rm) (ws := q.wsH hh) (n := As.length) (As := As) ⟨F.1, F.2.1, F.2.2.2.1, F.2.2.2.2.1, hts⟩ hM
    (vx_cwSW (ws' := lw_good) As.length hts hgo rfl rfl rfl (plain_ok hpl) (room_ok hdp hml))
    ⟨PcP.blind G _ h, PcP.pre F.2.2.2.2.2.2.2.2.1 hR hS⟩ rfl rfl hl.1 rfl (by show 2 * 0 + _ ≤ 8; omega) hd ⟨hc, hs⟩) hc hs k1 k2
end EVH
