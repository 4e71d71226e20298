/-! ===== calls, entries, throws ===== -/
theorem PcP.blind (G : Gx) (as : List Value) (h : Hp) : FrameBlind (PcP G as h) := by
  intro a U g mk q
  obtain ⟨q0, q1, q2⟩ := q
  exact ⟨q0, Gok.moved (u := U) (U := U.calling g mk a) (State.WarmedH.refl U) (Nat.le_refl _) (fun _ _ _ => rfl) q1, Rel.moved (u := U) (U := U.calling g mk a) (Vm.Alike.refl U.vm) q2⟩
theorem PcP.pre {G : Gx} {as : List Value} {h : Hp} {s : State} {H : Heap} {locs : List Loc} (hg : Gok G s) (hR : Rel G h s H) (hS : va_S (nw G) s.heap H locs) : ∀ U : State, U.heap = H → s.WarmedH U.vm → PcP G as h as.toArray U := by
  intro U hU hW
  exact ⟨rfl, Gok.moved hW (by rw [hU]; exact hS.1) (by rw [hU]; exact hS.2.1) hg, by rw [hU]; exact Rel.moved hW.alike hR⟩
def rcv (G : Gx) (h : Hp) (C : String) (b : Nat) : Prop := (∃ (ci N : Nat) (T : u_T), cls[ci]? = some (C, T, N) ∧ (h.1 b).1 = ci + 1) ∨ (∃ o, ocs[o]? = some C ∧ G.oc b = o + 1)
theorem rcv.cell {G : Gx} {h : Hp} {C : String} {b : Nat} {s : State} {H : Heap} {locs : List Loc} (hv : rcv G h C b) (hg : Gok G s) (hR : Rel G h s H) (hS : va_S (nw G) s.heap H locs) : ∃ cellB : Cell, H[b]? = some cellB ∧ cellB.vm.isStatics = false ∧ s.vm.findClass C = some cellB.cls := by
  rcases hv with ⟨ci, N, T, e1, e2⟩ | ⟨o, e1, e2⟩
  · obtain ⟨cv, g1, g2, g3, -⟩ := hR.obj e1 e2 (cls_lt e1)
    exact ⟨cv, g1, by rw [g3]; rfl, by rw [g2]; exact (hg.2.1 ci _ e1).2.1⟩
  · obtain ⟨cv, g1, g2, g3, -⟩ := (hg.2.2.2.2.1 o b C e1 e2).kept hS.2.1
    exact ⟨cv, g1, g2, g3⟩
section EVM
variable {G : Gx} {r q : Mr} {pc : Nat} {L st : List Value} {h : Hp} {cs ss : Nat} {Post P1 : Res → Hp → Prop}
/-- behind a call -/
theorem run_ok {p : Program} {e : Env} {s : State} {m : MethodId} {args aa : Array Value} {below : List Frame} {meth : Method} {c : Code} {ls : Array Slot} {H : Heap} {locs : List Loc} {st0 : List Value} (F : FrC G r p s m args meth c) (hl : LR r.ml ls L) (hS : va_S (nw G) s.heap H locs)
    (hr : vx_Run p G.1 e r.rm s m args below meth c H locs cs ss q.mc q.ms (F0 m pc ls st0) st (QcP G P1 aa) (XCP G P1) (nw G)) (hc : cs + q.mc ≤ r.mc) (hs : ss + q.ms ≤ r.ms)
    (k1 : ∀ v h', P1 (.inl v) h' → Ev G r (pc + 3) L (v.toList ++ st) h' (cs + q.mc) (ss + q.ms) Post) (k2 : ∀ E h', P1 (.inr E) h' → Post (.inr E) h') :
    W p G.1 e r.rm s m args below meth c H locs cs ss (vx_MQ below (QcP G Post) (XCP G Post) args s r.mc r.ms (nw G)) (F0 m pc ls st0) := by
  intro T hT X
  rcases hr T hT X with ⟨v, st₀, t, T', Lc, h0, X', hL, e1, e2, ⟨v', h', hv, hP, hR', hF⟩, go⟩ | ⟨a, st₀, t, T', Lc, E, ce, h0, X', hL, e1, e2, ⟨h', hP, hR', hF⟩, hce, hcv, hcl, go⟩
  · cases hv
    obtain ⟨z, k⟩ := hF
    rw [h0] at z k
    obtain ⟨t2, a1, b1⟩ := k1 v h' hP p e s m args below meth c ls T'.heap (locs ++ Lc) F hl (by rw [e1]; exact hR'.moved (by rw [← e2]; exact X'.warmed.alike.symm))
      ⟨Nat.le_trans hS.1 (by rw [e1]; exact z), fun b y1 y2 => by rw [e1, k b (Nat.lt_of_lt_of_le y1 hS.1) y2]; exact hS.2.1 b y1 y2, fun b hb => by
        rcases List.mem_append.mp hb with y | y
        · exact hS.2.2 b y
        · exact hL b y⟩ hc hs T' rfl X'
    exact ⟨t2, go t2 a1, b1⟩
  · obtain ⟨z, k⟩ := hF
    rw [h0] at z k
    have hSx : va_S (nw G) s.heap T'.heap (locs ++ Lc) := ⟨Nat.le_trans hS.1 (by rw [e1]; exact z), fun b y1 y2 => by rw [e1, k b (Nat.lt_of_lt_of_le y1 hS.1) y2]; exact hS.2.1 b y1 y2, fun b hb => by
        rcases List.mem_append.mp hb with y | y
        · exact hS.2.2 b y
        · exact hL b y⟩
    obtain ⟨t2, a1, b1⟩ := vx_out (Qc := QcP G Post) (XC := XCP G Post) (l := G.1) (p := p) (e := e) (R := r.rm) (s := s) (m := m) (args := args) (below := below) (c := c) (ls := ls) (rest := st) (pc := pc) (E := E) (ce := ce) (q := a) (H := T'.heap) (locs := locs ++ Lc) (cells := cs + q.mc) (slots := ss + q.ms) (free := nw G) (mc := r.mc) (ms := r.ms)
      (fun x hx => (F.2.2.2.2.2.2.2.2.2 x hx).elim) F.2.2.2.2.2.2.1 (by rw [e1]; exact hce) hcv hcl
      (fun t3 ht3 hA => ⟨h', k2 E h' hP, by rw [ht3, e1]; exact hR'.moved ((by rw [← e2]; exact X'.warmed.alike.symm : t.vm.Alike s.vm).trans hA), hSx.F ht3⟩) hSx.2.2 hc hs T' rfl X'
    exact ⟨t2, go.trans a1, b1⟩
theorem room_ok (hdp : q.dp + 1 ≤ r.dp) (hml : q.ml ≤ 45) : q.rm.frames + 1 ≤ r.rm.frames ∧ 8 + (q.ml + 11) + q.rm.locals ≤ r.rm.locals := by
  refine ⟨hdp, ?_⟩
  show 8 + (q.ml + 11) + 64 * q.dp ≤ 64 * r.dp
  omega
theorem ws_good (hcode : Cond.code q.1 q.2.1 q.ml q.rt ∈ lw_good) : GoodIn lw_good q.ws := good_in (fun w hw => (List.mem_cons.mp hw).elim (fun e => by rw [e]; exact hcode) id)
/-- what a program decides of a callee -/
def plainB (y : MethodName) (n : Nat) : Bool := decide (y.cls ≠ "java/lang/invoke/MethodHandle") && decide (y.cls ≠ "java/lang/invoke/VarHandle") && decide ((parseMethodDescriptor y.desc).map (fun d => d.parameters.length) = some n)
theorem plain_ok {y : MethodName} {n : Nat} (h : plainB y n = true) : y.cls ≠ "java/lang/invoke/MethodHandle" ∧ y.cls ≠ "java/lang/invoke/VarHandle" ∧ (parseMethodDescriptor y.desc).map (fun d => d.parameters.length) = some n := by
  simp only [plainB, Bool.and_eq_true, decide_eq_true_eq] at h
  exact ⟨h.1.1, h.1.2, h.2⟩
theorem ev_callV {idx b : Nat} {As : List Value} (hM : EvM G q (.ref b :: As) h P1) (hcode : Cond.code q.1 q.2.1 q.ml q.rt ∈ lw_good) (hlink : Cond.methodLink r.1.cls idx q.1 ∈ lw_good) (hini : Cond.initialized q.1.cls ∈ lw_good) (hin : Cond.instanceMethod q.1 ∈ lw_good) (hsel : Cond.selects q.1.cls q.1 q.1 ∈ lw_good)
    (hpl : plainB q.1 As.length = true) (hdp : q.dp + 1 ≤ r.dp) (hml : q.ml ≤ 45) (hrcv : rcv G h q.1.cls b) (hst : (st.map fun v => v.category).sum ≤ 8) (hd : decode r.2.1 pc = .ok (.invokevirtual idx, 3)) (hc : cs + q.mc ≤ r.mc) (hs : ss + q.ms ≤ r.ms)
    (k1 : ∀ v h', P1 (.inl v) h' → Ev G r (pc + 3) L (v.toList ++ st) h' (cs + q.mc) (ss + q.ms) Post) (k2 : ∀ E h', P1 (.inr E) h' → Post (.inr E) h') : Ev G r pc L (As.reverse ++ .ref b :: st) h cs ss Post := by
  intro p e s m args below meth c ls H locs F hl hR hS h1 h2
  have hts := F.2.2.2.2.2.1
  refine run_ok F hl hS (q := q) (st0 := As.reverse ++ .ref b :: st) (st := st) (vx_runV (C := q.1.cls) (cc := r.2.1) (nL := r.ml) (index := idx) (bytes := q.2.1) (maxL := q.ml) (ret := q.rt) (rm := q.rm) (ws := q.ws) (n := As.length) (b := b) (As := As) ⟨F.1, F.2.1, F.2.2.2.1, F.2.2.2.2.1, hts⟩ hM
    ⟨callB_of As.length hts (ws_good hcode) rfl rfl rfl (hts _ hini) (hts _ hlink) (plain_ok hpl) (room_ok hdp hml), hts _ hin, hts _ hsel⟩
    ⟨PcP.blind G _ h, hrcv.cell F.2.2.2.2.2.2.2.2.1 hR hS, PcP.pre F.2.2.2.2.2.2.2.2.1 hR hS⟩ rfl rfl hl.1 rfl (by show 2 * 0 + _ ≤ 8; omega) hd ⟨hc, hs⟩) hc hs k1 k2
theorem ev_callS {idx : Nat} {As : List Value} (hM : EvM G q As h P1) (hcode : Cond.code q.1 q.2.1 q.ml q.rt ∈ lw_good) (hlink : Cond.methodLink r.1.cls idx q.1 ∈ lw_good) (hini : Cond.initialized q.1.cls ∈ lw_good) (hsta : Cond.static q.1 ∈ lw_good)
    (hpl : plainB q.1 As.length = true) (hdp : q.dp + 1 ≤ r.dp) (hml : q.ml ≤ 45) (hst : (st.map fun v => v.category).sum ≤ 8) (hd : decode r.2.1 pc = .ok (.invokestatic idx, 3)) (hc : cs + q.mc ≤ r.mc) (hs : ss + q.ms ≤ r.ms)
    (k1 : ∀ v h', P1 (.inl v) h' → Ev G r (pc + 3) L (v.toList ++ st) h' (cs + q.mc) (ss + q.ms) Post) (k2 : ∀ E h', P1 (.inr E) h' → Post (.inr E) h') : Ev G r pc L (As.reverse ++ st) h cs ss Post := by
  intro p e s m args below meth c ls H locs F hl hR hS h1 h2
  have hts := F.2.2.2.2.2.1
  refine run_ok F hl hS (q := q) (st0 := As.reverse ++ st) (st := st) (vx_runS (cc := r.2.1) (nL := r.ml) (index := idx) (bytes := q.2.1) (maxL := q.ml) (ret := q.rt) (rm := q.rm) (ws := q.ws) (n := As.length) (As := As) ⟨F.1, F.2.1, F.2.2.2.1, F.2.2.2.2.1, hts⟩ hM
    ⟨callB_of As.length hts (ws_good hcode) rfl rfl rfl (hts _ hini) (hts _ hlink) (plain_ok hpl) (room_ok hdp hml), hts _ hsta⟩
    ⟨PcP.blind G _ h, PcP.pre F.2.2.2.2.2.2.2.2.1 hR hS⟩ rfl rfl hl.1 rfl (by show 2 * 0 + _ ≤ 8; omega) hd ⟨hc, hs⟩) hc hs k1 k2
theorem met_of_vx {l : Launch} {y : MethodName} {ws : List Cond} {rm : Room} {Pc : Array Value → State → Prop} {Qc : Array Value → State → Outcome → State → Prop} {XC : String → State → State → Prop} {mc ms : Nat} {free : Addr → Prop} (h : vx_Met l y ws rm Pc Qc XC mc ms free) (hx : ∀ E st t, ¬ XC E st t) : Met l y ws rm Pc Qc mc ms free := by
  intro p e a1 a2 a3 s m args below a4 a5 a6 a7
  obtain ⟨k, o, b1, b2, b3, hQ⟩ := h p e a1 a2 a3 s m args below a4 a5 a6 a7
  refine ⟨k, o, b1, b2, b3, ?_⟩
  rcases hQ with hQ | ⟨q, -, E, ce, Lc, hxc, -⟩
  · exact hQ
  · exact absurd hxc (hx _ _ _)
theorem vx_of_va {p : Program} {l : Launch} {e : Env} {R : Room} {s : State} {m : MethodId} {args : Array Value} {below : List Frame} {meth : Method} {c : Code} {H : Heap} {locs : List Loc} {cells slots mc ms : Nat} {g : JFrame} {rest : List Value} {Qa : State → Outcome → State → Prop} {XC : String → State → State → Prop} {free : Addr → Prop}
    (hr : va_Run p l e R s m args below meth c H locs cells slots mc ms g rest Qa free) : vx_Run p l e R s m args below meth c H locs cells slots mc ms g rest Qa XC free := fun T hT X => Or.inl (hr T hT X)
theorem ev_callI {idx b : Nat} {As : List Value} (hM : EvM G q (.ref b :: As) h P1) (hno : ∀ E h', ¬ P1 (.inr E) h') (hrt : q.rt = none) (hcode : Cond.code q.1 q.2.1 q.ml none ∈ lw_good) (hlink : Cond.methodLink r.1.cls idx q.1 ∈ lw_good) (hini : Cond.initialized q.1.cls ∈ lw_good) (hin : Cond.instanceMethod q.1 ∈ lw_good) (hnm : q.1.name = "<init>")
    (hpl : plainB q.1 As.length = true) (hdp : q.dp + 1 ≤ r.dp) (hml : q.ml ≤ 45) (hst : (st.map fun v => v.category).sum ≤ 8) (hd : decode r.2.1 pc = .ok (.invokespecial idx, 3)) (hc : cs + q.mc ≤ r.mc) (hs : ss + q.ms ≤ r.ms)
    (k1 : ∀ v h', P1 (.inl v) h' → Ev G r (pc + 3) L (v.toList ++ st) h' (cs + q.mc) (ss + q.ms) Post) : Ev G r pc L (As.reverse ++ .ref b :: st) h cs ss Post := by
  intro p e s m args below meth c ls H locs F hl hR hS h1 h2
  have hts := F.2.2.2.2.2.1
  have hcode' : Cond.code q.1 q.2.1 q.ml q.rt ∈ lw_good := by rw [hrt]; exact hcode
  refine run_ok F hl hS (q := q) (st0 := As.reverse ++ .ref b :: st) (st := st) (vx_of_va (va_runI (cc := r.2.1) (nL := r.ml) (index := idx) (bytes := q.2.1) (maxL := q.ml) (rm := q.rm) (ws := q.ws) (n := As.length) (b := b) (As := As) ⟨F.1, F.2.1, F.2.2.2.1, F.2.2.2.2.1, hts⟩ (met_of_vx hM (fun E st t => fun ⟨h', z, _⟩ => hno E h' z))
    ⟨callB_of As.length hts (ws_good hcode') (by show Cond.code q.1 q.2.1 q.ml q.rt :: lw_good = _; rw [hrt]) rfl rfl (hts _ hini) (hts _ hlink) (plain_ok hpl) (room_ok hdp hml), hnm, hts _ hin⟩
    ⟨PcP.blind G _ h, PcP.pre F.2.2.2.2.2.2.2.2.1 hR hS⟩ rfl rfl hl.1 rfl (by show 2 * 0 + _ ≤ 8; omega) hd ⟨hc, hs⟩)) hc hs k1 (fun E h' z => absurd z (hno E h'))
theorem ev_callIN {idx b : Nat} {As : List Value} {host : String} (hM : EvM G q (.ref b :: As) h P1) (hno : ∀ E h', ¬ P1 (.inr E) h') (hrt : q.rt = none) (hcode : Cond.code q.1 q.2.1 q.ml none ∈ lw_good) (hlink : (r.1.cls, idx, q.1, host) ∈ nests) (hini : Cond.initialized q.1.cls ∈ lw_good) (hin : Cond.instanceMethod q.1 ∈ lw_good) (hnm : q.1.name = "<init>")
    (hpl : plainB q.1 As.length = true) (hdp : q.dp + 1 ≤ r.dp) (hml : q.ml ≤ 45) (hst : (st.map fun v => v.category).sum ≤ 8) (hd : decode r.2.1 pc = .ok (.invokespecial idx, 3)) (hc : cs + q.mc ≤ r.mc) (hs : ss + q.ms ≤ r.ms)
    (k1 : ∀ v h', P1 (.inl v) h' → Ev G r (pc + 3) L (v.toList ++ st) h' (cs + q.mc) (ss + q.ms) Post) : Ev G r pc L (As.reverse ++ .ref b :: st) h cs ss Post := by
  intro p e s m args below meth c ls H locs F hl hR hS h1 h2
  have hts := F.2.2.2.2.2.1
  have hcode' : Cond.code q.1 q.2.1 q.ml q.rt ∈ lw_good := by rw [hrt]; exact hcode
  refine run_ok F hl hS (q := q) (st0 := As.reverse ++ .ref b :: st) (st := st) (vx_of_va (va_runIN (cc := r.2.1) (nL := r.ml) (index := idx) (bytes := q.2.1) (maxL := q.ml) (rm := q.rm) (ws := q.ws) (n := As.length) (b := b) (As := As) (host := host) ⟨F.1, F.2.1, F.2.2.2.1, F.2.2.2.2.1, hts⟩ (met_of_vx hM (fun E st t => fun ⟨h', z, _⟩ => hno E h' z))
    ⟨va_cnB As.length hts (ws_good hcode') (by show Cond.code q.1 q.2.1 q.ml q.rt :: lw_good = _; rw [hrt]) rfl rfl (F.2.2.2.2.2.2.2.2.1.2.2.2.2.2.2.1 _ hlink) (hts _ hini) (plain_ok hpl) (room_ok hdp hml), hnm, hts _ hin⟩
    ⟨PcP.blind G _ h, PcP.pre F.2.2.2.2.2.2.2.2.1 hR hS⟩ rfl rfl hl.1 rfl (by show 2 * 0 + _ ≤ 8; omega) hd ⟨hc, hs⟩)) hc hs k1 (fun E h' z => absurd z (hno E h'))
theorem args_in : ∀ (vs : List Value) (k i : Nat) (v : Value), (∀ w ∈ vs, w.category = 1) → vs[i]? = some v → (k + i, v) ∈ lv_args k vs
  | [], _, _, _, _, h => by simp at h
  | w :: vs, k, 0, v, hc, h => by
    cases h
    exact List.mem_cons_self
  | w :: vs, k, i + 1, v, hc, h => by
    have h1 : w.category = 1 := hc w List.mem_cons_self
    have := args_in vs (k + 1) i v (fun z hz => hc z (List.mem_cons_of_mem _ hz)) h
    rw [show k + (i + 1) = k + 1 + i by omega]
    show _ ∈ (k, w) :: lv_args (if w.category = 2 then k + 2 else k + 1) vs
    rw [if_neg (by omega)]
    exact List.mem_cons_of_mem _ this
theorem sl_len : ∀ (vs : List Value), (∀ w ∈ vs, w.category = 1) → (lg_sl vs).length = vs.length
  | [], _ => rfl
  | w :: vs, hc => by
    have h1 : w.category = 1 := hc w List.mem_cons_self
    have := sl_len vs (fun z hz => hc z (List.mem_cons_of_mem _ hz))
    simp only [lg_sl, List.flatMap_cons] at this ⊢
    rw [if_neg (by omega)]
    simp [this]
theorem EvM.of {As : List Value} (hy : plainName r.1.cls = true) (hc : ∀ w ∈ As, w.category = 1) (hn : As.length ≤ r.ml) (k : Ev G r 0 (As ++ List.replicate (r.ml - As.length) un) [] h 0 0 Post) : EvM G r As h Post := by
  refine vx_ofW (cc := r.2.1) (maxL := r.ml) (ret := r.rt) (ws' := lw_good) hy rfl ?_
  intro p e s m args below meth c s₁ B hml ht hv
  obtain ⟨rfl, hg, hR⟩ := hv
  have hl := lv_entry As (n := r.ml) (by rw [sl_len As hc]; exact hn)
  rw [lg_entry_eq]
  generalize (lg_sl As ++ List.replicate (r.ml - (lg_sl As).length) Slot.unset).toArray = ls at hl ⊢
  have hts := atoms_spec (ws := r.ws) B.pre
  refine k p e s m As.toArray below meth c ls s.heap [] ⟨B.exec, B.bytes, B.returns, hml, findClass_of_methodNamed B.named, fun w hw => hts w (List.mem_cons_of_mem _ hw), B.notSynchronized, (name_of_methodNamed B.named B.method).1, hg, ht⟩ ⟨hl.1, hl.2.1, by simp; omega, fun i v hi hv => ?_⟩ hR va_S.rf (Nat.zero_le _) (Nat.zero_le _)
  by_cases hlt : i < As.length
  · rw [List.getElem?_append_left hlt] at hi
    refine ⟨hc v (List.mem_of_getElem? hi), ?_⟩
    have := hl.2.2 (0 + i, v) (args_in As 0 i v hc hi)
    rwa [Nat.zero_add] at this
  · rw [List.getElem?_append_right (by omega)] at hi
    have := (List.getElem?_eq_some_iff.mp hi)
    obtain ⟨z1, z2⟩ := this
    rw [List.getElem_replicate] at z2
    exact absurd z2.symm hv
/-- more room, a weaker end -/
theorem EvM.post (hM : EvM G q L h P1) (hp : ∀ o h', P1 o h' → Post o h') : EvM G q L h Post := by
  intro p e a1 a2 a3 s m args below a4 a5 a6 a7
  obtain ⟨k, o, b1, b2, b3, hQ⟩ := hM p e a1 a2 a3 s m args below a4 a5 a6 a7
  refine ⟨k, o, b1, b2, b3, ?_⟩
  rcases hQ with ⟨⟨v, h', c1, c2, c3⟩, hF⟩ | ⟨a, d1, E, ce, Lc, ⟨h', c2, c3⟩, d2⟩
  · exact Or.inl ⟨⟨v, h', c1, hp _ _ c2, c3⟩, hF⟩
  · exact Or.inr ⟨a, d1, E, ce, Lc, ⟨h', hp _ _ c2, c3⟩, d2⟩
end EVM
