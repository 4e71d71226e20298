section
/-! ===== BEGIN words of one list among another's, by their places ===== -/
theorem goodIn_r {big : List Cond} (ws : List Cond) (ps : List Nat) (hp : ws = ps.filterMap (fun i => big[i]?)) (h : ws.all goodWord = true) : GoodIn big ws := by
  intro w hw
  have h1 := List.all_eq_true.mp h w hw
  rw [hp] at hw
  obtain ⟨i, -, hi⟩ := List.mem_filterMap.mp hw
  have hm : w ∈ big := by first | exact List.mem_of_getElem? hi | exact List.getElem?_mem hi
  exact ⟨hm, good_of_word h1⟩
theorem goodIn_app {big a b : List Cond} (ha : GoodIn big a) (hb : GoodIn big b) : GoodIn big (a ++ b) := fun w h => (List.mem_append.mp h).elim (ha w) (hb w)
theorem goodIn_ca {big a b : List Cond} {c : Cond} (ha : GoodIn big (c :: a)) (hb : GoodIn big b) : GoodIn big (c :: (a ++ b)) := fun w h => (List.mem_cons.mp h).elim (fun e => ha w (List.mem_cons.mpr (Or.inl e))) (fun h => (List.mem_append.mp h).elim (fun h => ha w (List.mem_cons.mpr (Or.inr h))) (hb w))
theorem goodIn_sub {big ws : List Cond} (hm : ∀ w ∈ ws, w ∈ big) (h : ws.all goodWord = true) : GoodIn big ws := fun w hw => ⟨hm w hw, good_of_word (List.all_eq_true.mp h w hw)⟩
/-! ===== END ===== -/

/-! ===== BEGIN exceptions that leave a method, and their catching by the caller (launches without stack traces) ===== -/
section VXA
/-! The laws vx_back, vx_callV, vx_callS, vx_callSW, vx_throw0, vx_throwS follow proofs of the library, with one case more: JvmDerived/Free/Laws.lean (Back.of_free), Shelf42/LK1.lean (callV, callS), Shelf/KitTraced.lean (throwNew0V, throwNewS). -/

/-- where a method has thrown q: the class by its name, the cell, what was written, the world -/
def vx_T (XC : String → State → State → Prop) (st : State) (q : Addr) (t : State) (mc ms : Nat) (free : Addr → Prop) : Prop :=
  ∃ (E : String) (ce : Cell) (L : List Loc), XC E st t ∧ t.heap[q]? = some ce ∧ ce.vm = .none ∧ st.vm.findClass E = some ce.cls ∧ st.WarmedH t.vm ∧ st.sameButNew ({ t with vm := st.vm } : State) L mc ms ∧ ∀ z ∈ L, free z.base
def vx_Q (Qc : Array Value → State → Outcome → State → Prop) (XC : String → State → State → Prop) (mc ms : Nat) (free : Addr → Prop) : Array Value → State → Outcome → State → Prop := fun a st o t =>
  (Qc a st o t ∧ ∃ L, FrameEnd st o t L mc ms ∧ ∀ q ∈ L, free q.base) ∨ ∃ q, o = .threw q ∧ vx_T XC st q t mc ms free
/-- a callee that returns or throws -/
def vx_Met (l : Launch) (y : MethodName) (ws : List Cond) (rm : Room) (Pc : Array Value → State → Prop) (Qc : Array Value → State → Outcome → State → Prop) (XC : String → State → State → Prop) (mc ms : Nat) (free : Addr → Prop) : Prop :=
  MetFree l y (headSpec ws rm) Pc (fun _ _ _ _ _ => True) (vx_Q Qc XC mc ms free)
def vx_Post (XC : String → State → State → Prop) (mc ms : Nat) (free : Addr → Prop) : Pt → Array Value → Addr → Pt → Prop := fun A a q B =>
  ∃ (g : JFrame) (mk : MethodId) (t : State) (L : List Loc) (E : String) (ce : Cell), B.U.heap = t.heap ∧ B.U.vm = t.vm ∧ XC E (A.U.calling g mk a) t ∧ t.heap[q]? = some ce ∧ ce.vm = .none ∧ A.U.vm.findClass E = some ce.cls ∧ B.locs = A.locs ++ L ∧ (∀ z ∈ L, free z.base) ∧ B.cells = A.cells + mc ∧ B.slots = A.slots + ms
def vx_Back (l : Launch) (R : Room) (p : Program) (e : Env) (below : List Frame) (s : State) (sargs : Array Value) (y : MethodName) (len W9 : Nat)
    (Pre : Pt → Array Value → Prop) (Post : Pt → Array Value → Option Value → Pt → Prop) (PostX : Pt → Array Value → Addr → Pt → Prop) : Prop :=
  ∀ (m : MethodId) (meth : Method) (c : Code) (A : Pt) (g : JFrame) (ig : Instr) (mk : MethodId) (a : Array Value),
    Stand p l e R s m sargs below meth c A.U A.locs A.cells A.slots → g.method = m → g.locals.size = c.maxLocals → decode c.code g.pc = .ok (ig, len) →
    2 * g.monitorRoom + (g.stack.map fun v => v.category).sum ≤ W9 → A.U.methodNamed? y = some mk → Pre A a →
    (∃ (v : Option Value) (B : Pt), Stand p l e R s m sargs below meth c B.U B.locs B.cells B.slots ∧ Post A a v B ∧
      Steps p.tables e below (doInvoke e (A.U.setTop g) [] mk a).1 (B.U.setTop { g with pc := g.pc + len, stack := v.toList ++ g.stack })) ∨
    (∃ (q : Addr) (B : Pt), Stand p l e R s m sargs below meth c B.U B.locs B.cells B.slots ∧ PostX A a q B ∧
      Steps p.tables e below (doInvoke e (A.U.setTop g) [] mk a).1 ((B.U.setTop g).pushFrame (.throwing q)))
section Payer
variable {l : Launch} {R : Room} {p : Program} {e : Env} {below : List Frame} {s : State} {sargs : Array Value} {y : MethodName} {len W9 : Nat}
theorem vx_back {ws : List Cond} {rm : Room} {Pc : Array Value → State → Prop} {Qc : Array Value → State → Outcome → State → Prop} {XC : String → State → State → Prop} {mc ms : Nat} {free : Addr → Prop} {bytes : ByteArray} {maxL : Nat} {ret : Option FieldType}
    (hM : vx_Met l y ws rm Pc Qc XC mc ms free) (hblind : FrameBlind Pc) (hrc : rm.cells = mc) (hrs : rm.slots = ms)
    (hframes : rm.frames + 1 ≤ R.frames) (hlocals : W9 + (maxL + 11) + rm.locals ≤ R.locals)
    (hws : ∀ w ∈ ws, ∀ a' U, s.WarmedH U.vm → w.before a' U = true) (hcode : Cond.code y bytes maxL ret ∈ ws) (hinit : ∀ a' U, s.WarmedH U.vm → (Cond.initialized y.cls).before a' U = true) :
    vx_Back l R p e below s sargs y len W9 (PreOf R mc ms Pc) (PostOf Qc mc ms free) (vx_Post XC mc ms free) := by
  intro m meth c A g ig mk a X hg hsize hdg hW hn hp
  have h1 : (headSpec ws rm).pre.before a A.U = true := atoms_intro fun w hw => hws w hw _ _ X.warmed
  have h2 : (Cond.code y bytes maxL ret).before a A.U = true := hws _ hcode _ _ X.warmed
  have h3 : (Cond.initialized y.cls).before a A.U = true := hinit _ _ X.warmed
  have h4 : A.cells + (headSpec ws rm).room.cells ≤ R.cells := by rw [show (headSpec ws rm).room.cells = mc from hrc]; exact hp.1
  have h5 : A.slots + (headSpec ws rm).room.slots ≤ R.slots := by rw [show (headSpec ws rm).room.slots = ms from hrs]; exact hp.2.1
  have hPc : Pc a (A.U.calling g mk a) := hblind _ _ _ _ hp.2.2
  obtain ⟨U, Ls, c0, s0⟩ := A
  dsimp only [Pt.U, Pt.locs, Pt.cells, Pt.slots] at h1 h2 h3 h4 h5 X hn hPc ⊢
  obtain ⟨methY, cY, hmY, hcY, -, hlY, -, -, -, -⟩ := Cond.code_spec hn h2
  obtain ⟨kY, hkY, -⟩ := className_of_methodNamed hn
  have hinitY : kY.init = .initialized := Cond.initialized_spec (findClass_of_methodNamed hn) hkY h3
  have h : At U g.method c below := by rw [hg]; exact X.here
  have hlocals9 : W9 + (maxL + 11) + (headSpec ws rm).room.locals ≤ R.locals := hlocals
  have happ : (headSpec ws rm).appliesLoose y e.platform (U.calling g mk a) = true :=
    Spec.appliesLoose_calling (g := g) h hdg hn hkY hinitY
      (X.room_calling (g := g) (R' := (headSpec ws rm).room) hsize hmY hcY hframes (by rw [hlY]; omega) h4 h5) h1
  obtain ⟨mid, hmid⟩ := h.above
  have hfr : (U.setTop g).frames = (.java g :: mid) ++ below := by rw [State.frames_setTop' g h.top, hmid]; rfl
  obtain ⟨o, s₂, hsteps, -, hend, hq⟩ := Steps.callFree hM p X.admits X.cas X.clock (acts := []) hfr happ hPc trivial
  have hq' : vx_Q Qc XC mc ms free a (U.calling g mk a) o s₂ := hq
  rw [State.frames_setTop' g h.top] at hend
  obtain ⟨g₀, hg0⟩ := Option.isSome_iff_exists.mp h.top
  obtain ⟨r, hr⟩ := State.topJava?_eq_some.mp hg0
  have hr' : (({ U with heap := s₂.heap, slotsUsed := s₂.slotsUsed } : State).setVm s₂.vm).frames = .java g₀ :: r := hr
  rcases hq' with ⟨hqc, L, hfe, hL⟩ | ⟨q, rfl, E, ce, L, hx, hce, hcv, hcl, hW₂, hsm, hL⟩
  · obtain ⟨⟨v, rfl⟩, hW₂, e2, q2, q3, q4, q5, q6⟩ := id hfe
    have e3 : s₂ = ({ (U.calling g mk a).setFrames s₂.frames with heap := s₂.heap, slotsUsed := s₂.slotsUsed } : State).setVm s₂.vm := by
      have : s₂ = ({ s₂ with vm := (U.calling g mk a).vm } : State).setVm s₂.vm := rfl
      rw [e2] at this
      exact this
    obtain ⟨c₂, i₂, len₂, hc₂, hd₂, hf₂⟩ := hend
    have hW' : U.WarmedH s₂.vm := hW₂
    have hcc : c₂ = c := by
      have h1 : s₂.code? g.method = U.code? g.method := by
        rw [State.code?_eq, State.code?_eq, hW'.alike.method?]
      exact Option.some.inj (hc₂.symm.trans (h1.trans h.code))
    subst hcc
    have hlen : len₂ = len := by rw [hdg] at hd₂; cases hd₂; rfl
    subst hlen
    have hs₂ : s₂ = (({ U with heap := s₂.heap, slotsUsed := s₂.slotsUsed } : State).setVm s₂.vm).setTop { g with pc := g.pc + len₂, stack := v.toList ++ g.stack } := by
      refine e3.trans ?_
      rw [hf₂, State.calling_eq h.top, State.setFrames_setFrames, State.setTop_of_frames _ hr', hr]
      rfl
    have hsame : U.sameButNew ({ U with heap := s₂.heap, slotsUsed := s₂.slotsUsed } : State) L mc ms := by
      refine ⟨?_, q2, q3, q4, q5, q6⟩
      obtain ⟨t, ht, -⟩ := State.frames_cons hr
      show ({ U with heap := s₂.heap, slotsUsed := s₂.slotsUsed } : State) = { U.setFrames U.frames with heap := s₂.heap, slotsUsed := s₂.slotsUsed }
      rw [State.setFrames_self ht]
    subst hg
    refine Or.inl ⟨v, ⟨(({ U with heap := s₂.heap, slotsUsed := s₂.slotsUsed } : State).setVm s₂.vm), Ls ++ L, c0 + mc, s0 + ms⟩,
      ⟨X.admits, X.cas, X.clock, X.frames, X.room, X.hears, X.method, X.code, (X.here.setHeapUsed s₂.heap s₂.slotsUsed).setVm hW'.alike, X.tail, State.WarmedH.trans X.warmed hW', X.limits, X.bytes, X.same.trans (hsame.setVm s.vm)⟩,
      ⟨g, mk, s₂, L, rfl, rfl, hqc, rfl, hL, rfl, rfl⟩, ?_⟩
    show Steps p.tables e below _ ((({ U with heap := s₂.heap, slotsUsed := s₂.slotsUsed } : State).setVm s₂.vm).setTop { g with pc := g.pc + len₂, stack := v.toList ++ g.stack })
    rw [← hs₂]
    exact hsteps
  · obtain ⟨e2, q2, q3, q4, q5, q6⟩ := id hsm
    have e3 : s₂ = ({ (U.calling g mk a).setFrames s₂.frames with heap := s₂.heap, slotsUsed := s₂.slotsUsed } : State).setVm s₂.vm := by
      have : s₂ = ({ s₂ with vm := (U.calling g mk a).vm } : State).setVm s₂.vm := rfl
      rw [e2] at this
      exact this
    have hf₂ : s₂.frames = .throwing q :: .java g :: U.frames.tail := hend
    have hW' : U.WarmedH s₂.vm := hW₂
    have hs₂ : s₂ = ((({ U with heap := s₂.heap, slotsUsed := s₂.slotsUsed } : State).setVm s₂.vm).setTop g).pushFrame (.throwing q) := by
      refine e3.trans ?_
      rw [hf₂, State.calling_eq h.top, State.setFrames_setFrames, State.pushFrame, State.frames_setTop _ hr', State.setTop_of_frames _ hr', State.setFrames_setFrames, hr]
      rfl
    have hsame : U.sameButNew ({ U with heap := s₂.heap, slotsUsed := s₂.slotsUsed } : State) L mc ms := by
      refine ⟨?_, q2, q3, q4, q5, q6⟩
      obtain ⟨t, ht, -⟩ := State.frames_cons hr
      show ({ U with heap := s₂.heap, slotsUsed := s₂.slotsUsed } : State) = { U.setFrames U.frames with heap := s₂.heap, slotsUsed := s₂.slotsUsed }
      rw [State.setFrames_self ht]
    subst hg
    refine Or.inr ⟨q, ⟨(({ U with heap := s₂.heap, slotsUsed := s₂.slotsUsed } : State).setVm s₂.vm), Ls ++ L, c0 + mc, s0 + ms⟩,
      ⟨X.admits, X.cas, X.clock, X.frames, X.room, X.hears, X.method, X.code, (X.here.setHeapUsed s₂.heap s₂.slotsUsed).setVm hW'.alike, X.tail, State.WarmedH.trans X.warmed hW', X.limits, X.bytes, X.same.trans (hsame.setVm s.vm)⟩,
      ⟨g, mk, s₂, L, E, ce, rfl, rfl, hx, hce, hcv, hcl, rfl, hL, rfl, rfl⟩, ?_⟩
    show Steps p.tables e below _ (((({ U with heap := s₂.heap, slotsUsed := s₂.slotsUsed } : State).setVm s₂.vm).setTop g).pushFrame (.throwing q))
    rw [← hs₂]
    exact hsteps
end Payer
section Calls
variable {p : Program} {l : Launch} {e : Env} {R : Room} {s : State} {m : MethodId} {args : Array Value} {below : List Frame} {meth : Method} {c : Code} {T : State} {locs : List Loc} {cells slots : Nat}
theorem vx_callV (X : Stand p l e R s m args below meth c T locs cells slots) (hexec : p.tables.exec = Jvm.exec) {own C : String} {index : Nat} {y : MethodName} {bytes : ByteArray} {maxL : Nat} {ret : Option FieldType}
    (hown : s.vm.findClass own = some m.cls) (hlink : (Cond.methodLink own index y).before args s = true) (hinst : (Cond.instanceMethod y).before args s = true) (hsel : (Cond.selects C y y).before args s = true)
    (hcode : (Cond.code y bytes maxL ret).before args s = true) (hy : y.cls ≠ "java/lang/invoke/MethodHandle" ∧ y.cls ≠ "java/lang/invoke/VarHandle")
    {W9 : Nat} {Pre : Pt → Array Value → Prop} {Post : Pt → Array Value → Option Value → Pt → Prop} {PostX : Pt → Array Value → Addr → Pt → Prop} (hK : vx_Back l R p e below s args y 3 W9 Pre Post PostX)
    {b : Addr} {cellB : Cell} (hcell : T.heap[b]? = some cellB) (hobj : cellB.vm.isStatics = false) (hcls : s.vm.findClass C = some cellB.cls)
    {g : JFrame} (hg : g.method = m) (hsize : g.locals.size = c.maxLocals) {argsL rest : List Value} (hlen : ∀ sig, parseMethodDescriptor y.desc = some sig → argsL.length = sig.parameters.length)
    (hstack : g.stack = argsL.reverse ++ .ref b :: rest) (hW : 2 * g.monitorRoom + (rest.map fun v => v.category).sum ≤ W9) (hdg : decode c.code g.pc = .ok (.invokevirtual index, 3))
    (hpre : ∀ vm₁, s.WarmedH vm₁ → Pre ⟨T.setVm vm₁, locs, cells, slots⟩ (Value.ref b :: argsL).toArray) :
    (∃ (v : Option Value) (vm₁ : Vm) (B : Pt), s.WarmedH vm₁ ∧ Stand p l e R s m args below meth c B.U B.locs B.cells B.slots ∧ Post ⟨T.setVm vm₁, locs, cells, slots⟩ (Value.ref b :: argsL).toArray v B ∧
      ∀ target, Steps p.tables e below (B.U.setTop { g with pc := g.pc + 3, stack := v.toList ++ rest }) target → Steps p.tables e below (T.setTop g) target) ∨
    (∃ (q : Addr) (vm₁ : Vm) (B : Pt), s.WarmedH vm₁ ∧ Stand p l e R s m args below meth c B.U B.locs B.cells B.slots ∧ PostX ⟨T.setVm vm₁, locs, cells, slots⟩ (Value.ref b :: argsL).toArray q B ∧
      Steps p.tables e below (T.setTop g) ((B.U.setTop { g with stack := rest }).pushFrame (.throwing q))) := by
  obtain ⟨mk, methM, hnamed, hmethM, hstM, habM⟩ := Cond.instanceMethod_spec hinst
  obtain ⟨methM', cM, hmethM', -, -, -, -, -, -, hsigM⟩ := Cond.code_spec hnamed hcode
  cases hmethM.symm.trans hmethM'
  obtain ⟨c2, r2, m2, q1, q2, q3, q4, kP, hkP, hkPi⟩ := Cond.selects_spec hsel
  cases hcls.symm.trans q1
  cases (State.methodFound?_of_named hnamed hy).symm.trans q2
  cases hnamed.symm.trans q3
  have hselP : selectMethod e.platform s.vm cellB.cls mk = .method mk := by rw [Launch.admits_selectMethod X.admits]; exact q4
  obtain ⟨vm₁, X₁, hstep₁⟩ := X.invokevirtual hexec hown hlink hnamed hmethM hstM hkP hkPi hy (a := b) (cell := cellB) hcell
    (fun z h => by rw [h] at hobj; cases hobj) hselP hmethM habM hkP hkPi (g := g) hg (argsL := argsL) (rest := rest) (hlen _ hsigM) hstack hdg
  rcases hK m meth c ⟨T.setVm vm₁, locs, cells, slots⟩ { g with stack := rest } (.invokevirtual index) mk (Value.ref b :: argsL).toArray X₁ hg hsize hdg hW (X₁.named hnamed) (hpre vm₁ X₁.warmed) with ⟨v, B, X', hpost, hsteps⟩ | ⟨q, B, X', hpost, hsteps⟩
  · exact Or.inl ⟨v, vm₁, B, X₁.warmed, X', hpost, fun target h => hstep₁ _ fun acts => by rw [doInvoke_state]; exact hsteps.trans h⟩
  · exact Or.inr ⟨q, vm₁, B, X₁.warmed, X', hpost, hstep₁ _ fun acts => by rw [doInvoke_state]; exact hsteps⟩
theorem vx_callS (X : Stand p l e R s m args below meth c T locs cells slots) (hexec : p.tables.exec = Jvm.exec) {own : String} {index : Nat} {y : MethodName} {bytes : ByteArray} {maxL : Nat} {ret : Option FieldType}
    (hown : s.vm.findClass own = some m.cls) (hlink : (Cond.methodLink own index y).before args s = true) (hstat : (Cond.static y).before args s = true) (hinit : (Cond.initialized y.cls).before args s = true)
    (hcode : (Cond.code y bytes maxL ret).before args s = true) (hy : y.cls ≠ "java/lang/invoke/MethodHandle" ∧ y.cls ≠ "java/lang/invoke/VarHandle")
    {W9 : Nat} {Pre : Pt → Array Value → Prop} {Post : Pt → Array Value → Option Value → Pt → Prop} {PostX : Pt → Array Value → Addr → Pt → Prop} (hK : vx_Back l R p e below s args y 3 W9 Pre Post PostX)
    {g : JFrame} (hg : g.method = m) (hsize : g.locals.size = c.maxLocals) {argsL rest : List Value} (hlen : ∀ sig, parseMethodDescriptor y.desc = some sig → argsL.length = sig.parameters.length)
    (hstack : g.stack = argsL.reverse ++ rest) (hW : 2 * g.monitorRoom + (rest.map fun v => v.category).sum ≤ W9) (hdg : decode c.code g.pc = .ok (.invokestatic index, 3))
    (hpre : ∀ vm₁, s.WarmedH vm₁ → Pre ⟨T.setVm vm₁, locs, cells, slots⟩ argsL.toArray) :
    (∃ (v : Option Value) (vm₁ : Vm) (B : Pt), s.WarmedH vm₁ ∧ Stand p l e R s m args below meth c B.U B.locs B.cells B.slots ∧ Post ⟨T.setVm vm₁, locs, cells, slots⟩ argsL.toArray v B ∧
      ∀ target, Steps p.tables e below (B.U.setTop { g with pc := g.pc + 3, stack := v.toList ++ rest }) target → Steps p.tables e below (T.setTop g) target) ∨
    (∃ (q : Addr) (vm₁ : Vm) (B : Pt), s.WarmedH vm₁ ∧ Stand p l e R s m args below meth c B.U B.locs B.cells B.slots ∧ PostX ⟨T.setVm vm₁, locs, cells, slots⟩ argsL.toArray q B ∧
      Steps p.tables e below (T.setTop g) ((B.U.setTop { g with stack := rest }).pushFrame (.throwing q))) := by
  obtain ⟨mk, hnamed⟩ := Cond.code_named hcode
  obtain ⟨methM, cM, hmethM, -, -, -, -, -, -, hsigM⟩ := Cond.code_spec hnamed hcode
  have hstatic : methM.isStatic = true := Cond.static_spec hnamed hmethM hstat
  obtain ⟨kP, hkP, -⟩ := className_of_methodNamed hnamed
  have hinitP : kP.init = .initialized := Cond.initialized_spec (findClass_of_methodNamed hnamed) hkP hinit
  obtain ⟨vm₁, X₁, hstep₁⟩ := X.invokestatic hexec hown hlink hnamed hmethM hstatic hkP hinitP hy (g := g) hg (argsL := argsL) (rest := rest) (hlen _ hsigM) hstack hdg
  rcases hK m meth c ⟨T.setVm vm₁, locs, cells, slots⟩ { g with stack := rest } (.invokestatic index) mk argsL.toArray X₁ hg hsize hdg hW (X₁.named hnamed) (hpre vm₁ X₁.warmed) with ⟨v, B, X', hpost, hsteps⟩ | ⟨q, B, X', hpost, hsteps⟩
  · exact Or.inl ⟨v, vm₁, B, X₁.warmed, X', hpost, fun target h => hstep₁ _ fun acts => by rw [doInvoke_state]; exact hsteps.trans h⟩
  · exact Or.inr ⟨q, vm₁, B, X₁.warmed, X', hpost, hstep₁ _ fun acts => by rw [doInvoke_state]; exact hsteps⟩
end Calls
theorem vx_cls {s : State} {T : State} {vm₁ : Vm} {E : String} {k : ClassId} (hW : s.WarmedH vm₁) (h : (T.setVm vm₁).vm.findClass E = some k) : s.vm.findClass E = some k := by
  have h1 : vm₁.findClass E = some k := h
  rw [hW.alike.findClass] at h1
  exact h1
/-- the method's frame g, with q thrown over it -/
def vx_W (p : Program) (l : Launch) (e : Env) (R : Room) (s : State) (m : MethodId) (args : Array Value) (below : List Frame) (meth : Method) (c : Code) (H : Heap) (locs : List Loc) (cells slots : Nat) (Q : State → Prop) (g : JFrame) (q : Addr) : Prop :=
  ∀ T : State, T.heap = H → Stand p l e R s m args below meth c T locs cells slots → ∃ t, Steps p.tables e below ((T.setTop g).pushFrame (.throwing q)) t ∧ Q t
def vx_Run (p : Program) (l : Launch) (e : Env) (R : Room) (s : State) (m : MethodId) (args : Array Value) (below : List Frame) (meth : Method) (c : Code) (H : Heap) (locs : List Loc) (cells slots mc ms : Nat) (g : JFrame) (rest : List Value) (Qa : State → Outcome → State → Prop) (XC : String → State → State → Prop) (free : Addr → Prop) : Prop :=
  ∀ T : State, T.heap = H → Stand p l e R s m args below meth c T locs cells slots →
    (∃ (v : Option Value) (st₀ t T' : State) (L : List Loc), st₀.heap = H ∧ Stand p l e R s m args below meth c T' (locs ++ L) (cells + mc) (slots + ms) ∧ (∀ q ∈ L, free q.base) ∧ T'.heap = t.heap ∧ T'.vm = t.vm ∧ Qa st₀ (.returned v) t ∧
      Goes p e below T g T' { g with pc := g.pc + 3, stack := v.toList ++ rest }) ∨
    (∃ (q : Addr) (st₀ t T' : State) (L : List Loc) (E : String) (ce : Cell), st₀.heap = H ∧ Stand p l e R s m args below meth c T' (locs ++ L) (cells + mc) (slots + ms) ∧ (∀ z ∈ L, free z.base) ∧ T'.heap = t.heap ∧ T'.vm = t.vm ∧ XC E st₀ t ∧ t.heap[q]? = some ce ∧ ce.vm = .none ∧ s.vm.findClass E = some ce.cls ∧
      Steps p.tables e below (T.setTop g) ((T'.setTop { g with stack := rest }).pushFrame (.throwing q)))
def vx_X {S : Type} (px : S → Prop) (B : String → S → State → Prop) (A : Nat → Prop) : String → State → State → Prop := fun E st t => ∃ u : S, px u ∧ B E u t ∧ va_F A st t
section Runs
variable {p : Program} {l : Launch} {e : Env} {R : Room} {s : State} {m : MethodId} {args : Array Value} {below : List Frame} {meth : Method} {c : Code} {H : Heap} {locs : List Loc} {cells slots : Nat}
variable {y : MethodName} {bytes cc : ByteArray} {maxL nL mc ms n index : Nat} {ret : Option FieldType} {ws : List Cond} {rm : Room} {Pc : Array Value → State → Prop} {Qc : Array Value → State → Outcome → State → Prop} {XC : String → State → State → Prop} {free : Addr → Prop} {Ts : List Cond} {own C : String} {b : Addr} {As rest : List Value} {g : JFrame}
theorem vx_callBack (cb : CallB R s args own index y bytes maxL ret ws rm mc ms n) (hM : vx_Met l y ws rm Pc Qc XC mc ms free) (hbl : FrameBlind Pc) : vx_Back l R p e below s args y 3 8 (PreOf R mc ms Pc) (PostOf Qc mc ms free) (vx_Post XC mc ms free) := by
  obtain ⟨hrc, hrs, hfr, hlo, hws, hcw, -, hini, -⟩ := cb
  exact vx_back (bytes := bytes) (maxL := maxL) (ret := ret) hM hbl hrc hrs hfr hlo hws hcw (fun a' U hW => word_at hW (Or.inl (by first | rfl | simp [Cond.onTables, Cond.keeps, Cond.steady])) hini)
theorem vx_runV (S : CallFix p m c cc nL s args Ts own) (hM : vx_Met l y ws rm Pc Qc XC mc ms free) (cw : CallW R s args own C index y bytes maxL ret ws rm mc ms n) (hp : PreV s H C b Pc As)
    (hg : g.method = m) (hn : As.length = n) (hsize : g.locals.size = nL) (hstack : g.stack = As.reverse ++ .ref b :: rest) (hW : 2 * g.monitorRoom + (rest.map fun v => v.category).sum ≤ 8) (hdg : decode cc g.pc = .ok (.invokevirtual index, 3)) (hf : cells + mc ≤ R.cells ∧ slots + ms ≤ R.slots) :
    vx_Run p l e R s m args below meth c H locs cells slots mc ms g rest (Qc (Value.ref b :: As).toArray) XC free := by
  have hK : vx_Back l R p e below s args y 3 8 (PreOf R mc ms Pc) (PostOf Qc mc ms free) (vx_Post XC mc ms free) := vx_callBack cw.1 hM hp.1
  obtain ⟨⟨-, -, -, -, -, -, hcode, -, hy, hlen, hl⟩, hin, hse⟩ := cw
  obtain ⟨hx, hb, hml, ho, -⟩ := S
  obtain ⟨-, ⟨cellB, hcB, hoB, hclB⟩, hPc⟩ := hp
  intro T hT X
  rcases vx_callV X hx (C := C) (bytes := bytes) (maxL := maxL) (ret := ret) ho hl hin hse hcode hy hK (by rw [hT]; exact hcB) hoB hclB hg (hsize.trans hml.symm) (argsL := As) (rest := rest) (fun sig h => hn.trans (hlen sig h)) hstack hW (by rw [hb]; exact hdg)
    (fun vm₁ hW₁ => ⟨hf.1, hf.2, hPc (T.setVm vm₁) hT hW₁⟩) with ⟨v, vm₁, ⟨U', l2, c2, s2⟩, hW₁, X', ⟨g', mk, t, L, e1, e2, hq, h1, hL, h2, h3⟩, st⟩ | ⟨q, vm₁, ⟨U', l2, c2, s2⟩, hW₁, X', ⟨g', mk, t, L, E, ce, e1, e2, hq, hce, hcv, hcl, h1, hL, h2, h3⟩, st⟩
  · dsimp only [Pt.U, Pt.locs, Pt.cells, Pt.slots] at X' e1 e2 h1 h2 h3 st
    subst h1; subst h2; subst h3
    exact Or.inl ⟨v, (T.setVm vm₁).calling g' mk (Value.ref b :: As).toArray, t, U', L, hT, X', hL, e1, e2, hq, st⟩
  · dsimp only [Pt.U, Pt.locs, Pt.cells, Pt.slots] at X' e1 e2 h1 h2 h3 st hcl
    subst h1; subst h2; subst h3
    exact Or.inr ⟨q, (T.setVm vm₁).calling g' mk (Value.ref b :: As).toArray, t, U', L, E, ce, hT, X', hL, e1, e2, hq, hce, hcv, vx_cls hW₁ hcl, st⟩
theorem vx_runS (S : CallFix p m c cc nL s args Ts own) (hM : vx_Met l y ws rm Pc Qc XC mc ms free) (cw : CallB R s args own index y bytes maxL ret ws rm mc ms n ∧ (Cond.static y).before args s = true) (hp : PreS s H Pc As)
    (hg : g.method = m) (hn : As.length = n) (hsize : g.locals.size = nL) (hstack : g.stack = As.reverse ++ rest) (hW : 2 * g.monitorRoom + (rest.map fun v => v.category).sum ≤ 8) (hdg : decode cc g.pc = .ok (.invokestatic index, 3)) (hf : cells + mc ≤ R.cells ∧ slots + ms ≤ R.slots) :
    vx_Run p l e R s m args below meth c H locs cells slots mc ms g rest (Qc As.toArray) XC free := by
  have hK : vx_Back l R p e below s args y 3 8 (PreOf R mc ms Pc) (PostOf Qc mc ms free) (vx_Post XC mc ms free) := vx_callBack cw.1 hM hp.1
  obtain ⟨⟨-, -, -, -, -, -, hcode, hini, hy, hlen, hl⟩, hstt⟩ := cw
  obtain ⟨hx, hb, hml, ho, -⟩ := S
  intro T hT X
  rcases vx_callS X hx (bytes := bytes) (maxL := maxL) (ret := ret) ho hl hstt hini hcode hy hK hg (hsize.trans hml.symm) (argsL := As) (rest := rest) (fun sig h => hn.trans (hlen sig h)) hstack hW (by rw [hb]; exact hdg)
    (fun vm₁ hW₁ => ⟨hf.1, hf.2, hp.2 (T.setVm vm₁) hT hW₁⟩) with ⟨v, vm₁, ⟨U', l2, c2, s2⟩, hW₁, X', ⟨g', mk, t, L, e1, e2, hq, h1, hL, h2, h3⟩, st⟩ | ⟨q, vm₁, ⟨U', l2, c2, s2⟩, hW₁, X', ⟨g', mk, t, L, E, ce, e1, e2, hq, hce, hcv, hcl, h1, hL, h2, h3⟩, st⟩
  · dsimp only [Pt.U, Pt.locs, Pt.cells, Pt.slots] at X' e1 e2 h1 h2 h3 st
    subst h1; subst h2; subst h3
    exact Or.inl ⟨v, (T.setVm vm₁).calling g' mk As.toArray, t, U', L, hT, X', hL, e1, e2, hq, st⟩
  · dsimp only [Pt.U, Pt.locs, Pt.cells, Pt.slots] at X' e1 e2 h1 h2 h3 st hcl
    subst h1; subst h2; subst h3
    exact Or.inr ⟨q, (T.setVm vm₁).calling g' mk As.toArray, t, U', L, E, ce, hT, X', hL, e1, e2, hq, hce, hcv, vx_cls hW₁ hcl, st⟩
end Runs
section Rows
variable {p : Program} {l : Launch} {e : Env} {R : Room} {s : State} {m : MethodId} {args : Array Value} {below : List Frame} {meth : Method} {c : Code} {H : Heap} {locs : List Loc} {cells slots : Nat} {Q : State → Prop}
variable {mc ms : Nat} {free : Addr → Prop} {A0 A1 : Nat → Prop} {H0 : Heap} {a : Array Value} {pc : Nat} {ls : Array Slot} {st0 rest : List Value}
theorem vx_keep {st₀ t T' : State} {L : List Loc} (h0 : st₀.heap = H) (e1 : T'.heap = t.heap) (hS : va_S A0 H0 H locs) (hA : ∀ q, q < H.size → A1 q → A0 q) (hf : ∀ q, free q → A0 q) (hL : ∀ q ∈ L, free q.base) (hF : va_F A1 st₀ t) :
    H.size ≤ T'.heap.size ∧ (∀ q : Nat, q < H.size → ¬ A1 q → T'.heap[q]? = H[q]?) ∧ va_S A0 H0 T'.heap (locs ++ L) := by
  obtain ⟨hz, hk⟩ := hF
  rw [h0] at hz hk
  exact ⟨by rw [e1]; exact hz, fun q h1 h2 => by rw [e1]; exact hk q h1 h2,
    ⟨Nat.le_trans hS.1 (by rw [e1]; exact hz), fun q h1 h2 => by rw [e1, hk q (Nat.lt_of_lt_of_le h1 hS.1) (fun z => h2 (hA q (Nat.lt_of_lt_of_le h1 hS.1) z))]; exact hS.2.1 q h1 h2, fun q hq => by
      rcases List.mem_append.mp hq with h | h
      · exact hS.2.2 q h
      · exact hf _ (hL q h)⟩⟩
theorem vx_calli {S SX : Type} {post : Int32 → S → Prop} {px : SX → Prop} {B : S → State → Prop} {BX : String → SX → State → Prop} {AX : Nat → Prop} (hr : vx_Run p l e R s m args below meth c H locs cells slots mc ms (F0 m pc ls st0) rest (va_Qi post B A1 a) (vx_X px BX AX) free) (hS : va_S A0 H0 H locs) (hA : ∀ q, q < H.size → A1 q → A0 q) (hf : ∀ q, free q → A0 q) (hAX : ∀ q, q < H.size → AX q → A0 q)
    (kx : ∀ (E : String) (ce : Cell) (q9 : Addr) (u : SX) (t : State) (H1 : Heap) (locs1 : List Loc), t.heap = H1 → s.vm.Alike t.vm → px u → BX E u t → H.size ≤ H1.size → (∀ q : Nat, q < H.size → ¬ AX q → H1[q]? = H[q]?) → va_S A0 H0 H1 locs1 → H1[q9]? = some ce → ce.vm = .none → s.vm.findClass E = some ce.cls → vx_W p l e R s m args below meth c H1 locs1 (cells + mc) (slots + ms) Q (F0 m pc ls rest) q9)
    (kk : ∀ (r : Int32) (u : S) (t : State) (H1 : Heap) (locs1 : List Loc), t.heap = H1 → s.vm.Alike t.vm → post r u → B u t → H.size ≤ H1.size → (∀ q : Nat, q < H.size → ¬ A1 q → H1[q]? = H[q]?) → va_S A0 H0 H1 locs1 → W p l e R s m args below meth c H1 locs1 (cells + mc) (slots + ms) Q (F0 m (pc + 3) ls (.int r :: rest))) : W p l e R s m args below meth c H locs cells slots Q (F0 m pc ls st0) := by
  intro T hT X
  rcases hr T hT X with ⟨v, st₀, t, T', L, h0, X', hL, e1, e2, ⟨⟨r, u, hv, hp, hb⟩, hF⟩, st⟩ | ⟨q, st₀, t, T', L, E, ce, h0, X', hL, e1, e2, ⟨u, hp, hb, hF⟩, hce, hcv, hcl, st⟩
  · cases hv
    obtain ⟨k1, k2, k3⟩ := vx_keep h0 e1 hS hA hf hL hF
    obtain ⟨t2, a1, b1⟩ := kk r u t T'.heap (locs ++ L) e1.symm (by rw [← e2]; exact X'.warmed.alike) hp hb k1 k2 k3 T' rfl X'
    exact ⟨t2, st t2 a1, b1⟩
  · obtain ⟨k1, k2, k3⟩ := vx_keep h0 e1 hS hAX hf hL hF
    obtain ⟨t2, a1, b1⟩ := kx E ce q u t T'.heap (locs ++ L) e1.symm (by rw [← e2]; exact X'.warmed.alike) hp hb k1 k2 k3 (by rw [e1]; exact hce) hcv hcl T' rfl X'
    exact ⟨t2, st.trans a1, b1⟩
theorem vx_calll {S SX : Type} {post : Int64 → S → Prop} {px : SX → Prop} {B : S → State → Prop} {BX : String → SX → State → Prop} {AX : Nat → Prop} (hr : vx_Run p l e R s m args below meth c H locs cells slots mc ms (F0 m pc ls st0) rest (va_Ql post B A1 a) (vx_X px BX AX) free) (hS : va_S A0 H0 H locs) (hA : ∀ q, q < H.size → A1 q → A0 q) (hf : ∀ q, free q → A0 q) (hAX : ∀ q, q < H.size → AX q → A0 q)
    (kx : ∀ (E : String) (ce : Cell) (q9 : Addr) (u : SX) (t : State) (H1 : Heap) (locs1 : List Loc), t.heap = H1 → s.vm.Alike t.vm → px u → BX E u t → H.size ≤ H1.size → (∀ q : Nat, q < H.size → ¬ AX q → H1[q]? = H[q]?) → va_S A0 H0 H1 locs1 → H1[q9]? = some ce → ce.vm = .none → s.vm.findClass E = some ce.cls → vx_W p l e R s m args below meth c H1 locs1 (cells + mc) (slots + ms) Q (F0 m pc ls rest) q9)
    (kk : ∀ (r : Int64) (u : S) (t : State) (H1 : Heap) (locs1 : List Loc), t.heap = H1 → s.vm.Alike t.vm → post r u → B u t → H.size ≤ H1.size → (∀ q : Nat, q < H.size → ¬ A1 q → H1[q]? = H[q]?) → va_S A0 H0 H1 locs1 → W p l e R s m args below meth c H1 locs1 (cells + mc) (slots + ms) Q (F0 m (pc + 3) ls (.long r :: rest))) : W p l e R s m args below meth c H locs cells slots Q (F0 m pc ls st0) := by
  intro T hT X
  rcases hr T hT X with ⟨v, st₀, t, T', L, h0, X', hL, e1, e2, ⟨⟨r, u, hv, hp, hb⟩, hF⟩, st⟩ | ⟨q, st₀, t, T', L, E, ce, h0, X', hL, e1, e2, ⟨u, hp, hb, hF⟩, hce, hcv, hcl, st⟩
  · cases hv
    obtain ⟨k1, k2, k3⟩ := vx_keep h0 e1 hS hA hf hL hF
    obtain ⟨t2, a1, b1⟩ := kk r u t T'.heap (locs ++ L) e1.symm (by rw [← e2]; exact X'.warmed.alike) hp hb k1 k2 k3 T' rfl X'
    exact ⟨t2, st t2 a1, b1⟩
  · obtain ⟨k1, k2, k3⟩ := vx_keep h0 e1 hS hAX hf hL hF
    obtain ⟨t2, a1, b1⟩ := kx E ce q u t T'.heap (locs ++ L) e1.symm (by rw [← e2]; exact X'.warmed.alike) hp hb k1 k2 k3 (by rw [e1]; exact hce) hcv hcl T' rfl X'
    exact ⟨t2, st.trans a1, b1⟩
theorem vx_callf {S SX : Type} {post : UInt32 → S → Prop} {px : SX → Prop} {B : S → State → Prop} {BX : String → SX → State → Prop} {AX : Nat → Prop} (hr : vx_Run p l e R s m args below meth c H locs cells slots mc ms (F0 m pc ls st0) rest (va_Qf post B A1 a) (vx_X px BX AX) free) (hS : va_S A0 H0 H locs) (hA : ∀ q, q < H.size → A1 q → A0 q) (hf : ∀ q, free q → A0 q) (hAX : ∀ q, q < H.size → AX q → A0 q)
    (kx : ∀ (E : String) (ce : Cell) (q9 : Addr) (u : SX) (t : State) (H1 : Heap) (locs1 : List Loc), t.heap = H1 → s.vm.Alike t.vm → px u → BX E u t → H.size ≤ H1.size → (∀ q : Nat, q < H.size → ¬ AX q → H1[q]? = H[q]?) → va_S A0 H0 H1 locs1 → H1[q9]? = some ce → ce.vm = .none → s.vm.findClass E = some ce.cls → vx_W p l e R s m args below meth c H1 locs1 (cells + mc) (slots + ms) Q (F0 m pc ls rest) q9)
    (kk : ∀ (r : UInt32) (u : S) (t : State) (H1 : Heap) (locs1 : List Loc), t.heap = H1 → s.vm.Alike t.vm → post r u → B u t → H.size ≤ H1.size → (∀ q : Nat, q < H.size → ¬ A1 q → H1[q]? = H[q]?) → va_S A0 H0 H1 locs1 → W p l e R s m args below meth c H1 locs1 (cells + mc) (slots + ms) Q (F0 m (pc + 3) ls (.float r :: rest))) : W p l e R s m args below meth c H locs cells slots Q (F0 m pc ls st0) := by
  intro T hT X
  rcases hr T hT X with ⟨v, st₀, t, T', L, h0, X', hL, e1, e2, ⟨⟨r, u, hv, hp, hb⟩, hF⟩, st⟩ | ⟨q, st₀, t, T', L, E, ce, h0, X', hL, e1, e2, ⟨u, hp, hb, hF⟩, hce, hcv, hcl, st⟩
  · cases hv
    obtain ⟨k1, k2, k3⟩ := vx_keep h0 e1 hS hA hf hL hF
    obtain ⟨t2, a1, b1⟩ := kk r u t T'.heap (locs ++ L) e1.symm (by rw [← e2]; exact X'.warmed.alike) hp hb k1 k2 k3 T' rfl X'
    exact ⟨t2, st t2 a1, b1⟩
  · obtain ⟨k1, k2, k3⟩ := vx_keep h0 e1 hS hAX hf hL hF
    obtain ⟨t2, a1, b1⟩ := kx E ce q u t T'.heap (locs ++ L) e1.symm (by rw [← e2]; exact X'.warmed.alike) hp hb k1 k2 k3 (by rw [e1]; exact hce) hcv hcl T' rfl X'
    exact ⟨t2, st.trans a1, b1⟩
theorem vx_calld {S SX : Type} {post : UInt64 → S → Prop} {px : SX → Prop} {B : S → State → Prop} {BX : String → SX → State → Prop} {AX : Nat → Prop} (hr : vx_Run p l e R s m args below meth c H locs cells slots mc ms (F0 m pc ls st0) rest (va_Qd post B A1 a) (vx_X px BX AX) free) (hS : va_S A0 H0 H locs) (hA : ∀ q, q < H.size → A1 q → A0 q) (hf : ∀ q, free q → A0 q) (hAX : ∀ q, q < H.size → AX q → A0 q)
    (kx : ∀ (E : String) (ce : Cell) (q9 : Addr) (u : SX) (t : State) (H1 : Heap) (locs1 : List Loc), t.heap = H1 → s.vm.Alike t.vm → px u → BX E u t → H.size ≤ H1.size → (∀ q : Nat, q < H.size → ¬ AX q → H1[q]? = H[q]?) → va_S A0 H0 H1 locs1 → H1[q9]? = some ce → ce.vm = .none → s.vm.findClass E = some ce.cls → vx_W p l e R s m args below meth c H1 locs1 (cells + mc) (slots + ms) Q (F0 m pc ls rest) q9)
    (kk : ∀ (r : UInt64) (u : S) (t : State) (H1 : Heap) (locs1 : List Loc), t.heap = H1 → s.vm.Alike t.vm → post r u → B u t → H.size ≤ H1.size → (∀ q : Nat, q < H.size → ¬ A1 q → H1[q]? = H[q]?) → va_S A0 H0 H1 locs1 → W p l e R s m args below meth c H1 locs1 (cells + mc) (slots + ms) Q (F0 m (pc + 3) ls (.double r :: rest))) : W p l e R s m args below meth c H locs cells slots Q (F0 m pc ls st0) := by
  intro T hT X
  rcases hr T hT X with ⟨v, st₀, t, T', L, h0, X', hL, e1, e2, ⟨⟨r, u, hv, hp, hb⟩, hF⟩, st⟩ | ⟨q, st₀, t, T', L, E, ce, h0, X', hL, e1, e2, ⟨u, hp, hb, hF⟩, hce, hcv, hcl, st⟩
  · cases hv
    obtain ⟨k1, k2, k3⟩ := vx_keep h0 e1 hS hA hf hL hF
    obtain ⟨t2, a1, b1⟩ := kk r u t T'.heap (locs ++ L) e1.symm (by rw [← e2]; exact X'.warmed.alike) hp hb k1 k2 k3 T' rfl X'
    exact ⟨t2, st t2 a1, b1⟩
  · obtain ⟨k1, k2, k3⟩ := vx_keep h0 e1 hS hAX hf hL hF
    obtain ⟨t2, a1, b1⟩ := kx E ce q u t T'.heap (locs ++ L) e1.symm (by rw [← e2]; exact X'.warmed.alike) hp hb k1 k2 k3 (by rw [e1]; exact hce) hcv hcl T' rfl X'
    exact ⟨t2, st.trans a1, b1⟩
theorem vx_callv {S SX : Type} {post : S → Prop} {px : SX → Prop} {B : S → State → Prop} {BX : String → SX → State → Prop} {AX : Nat → Prop} (hr : vx_Run p l e R s m args below meth c H locs cells slots mc ms (F0 m pc ls st0) rest (va_Qv post B A1 a) (vx_X px BX AX) free) (hS : va_S A0 H0 H locs) (hA : ∀ q, q < H.size → A1 q → A0 q) (hf : ∀ q, free q → A0 q) (hAX : ∀ q, q < H.size → AX q → A0 q)
    (kx : ∀ (E : String) (ce : Cell) (q9 : Addr) (u : SX) (t : State) (H1 : Heap) (locs1 : List Loc), t.heap = H1 → s.vm.Alike t.vm → px u → BX E u t → H.size ≤ H1.size → (∀ q : Nat, q < H.size → ¬ AX q → H1[q]? = H[q]?) → va_S A0 H0 H1 locs1 → H1[q9]? = some ce → ce.vm = .none → s.vm.findClass E = some ce.cls → vx_W p l e R s m args below meth c H1 locs1 (cells + mc) (slots + ms) Q (F0 m pc ls rest) q9)
    (kk : ∀ (u : S) (t : State) (H1 : Heap) (locs1 : List Loc), t.heap = H1 → s.vm.Alike t.vm → post u → B u t → H.size ≤ H1.size → (∀ q : Nat, q < H.size → ¬ A1 q → H1[q]? = H[q]?) → va_S A0 H0 H1 locs1 → W p l e R s m args below meth c H1 locs1 (cells + mc) (slots + ms) Q (F0 m (pc + 3) ls (rest))) : W p l e R s m args below meth c H locs cells slots Q (F0 m pc ls st0) := by
  intro T hT X
  rcases hr T hT X with ⟨v, st₀, t, T', L, h0, X', hL, e1, e2, ⟨⟨u, hv, hp, hb⟩, hF⟩, st⟩ | ⟨q, st₀, t, T', L, E, ce, h0, X', hL, e1, e2, ⟨u, hp, hb, hF⟩, hce, hcv, hcl, st⟩
  · cases hv
    obtain ⟨k1, k2, k3⟩ := vx_keep h0 e1 hS hA hf hL hF
    obtain ⟨t2, a1, b1⟩ := kk u t T'.heap (locs ++ L) e1.symm (by rw [← e2]; exact X'.warmed.alike) hp hb k1 k2 k3 T' rfl X'
    exact ⟨t2, st t2 a1, b1⟩
  · obtain ⟨k1, k2, k3⟩ := vx_keep h0 e1 hS hAX hf hL hF
    obtain ⟨t2, a1, b1⟩ := kx E ce q u t T'.heap (locs ++ L) e1.symm (by rw [← e2]; exact X'.warmed.alike) hp hb k1 k2 k3 (by rw [e1]; exact hce) hcv hcl T' rfl X'
    exact ⟨t2, st.trans a1, b1⟩
end Rows
section Ends
variable {p : Program} {l : Launch} {e : Env} {R : Room} {s : State} {m : MethodId} {args : Array Value} {below : List Frame} {meth : Method} {c : Code} {H : Heap} {locs : List Loc} {cells slots : Nat} {Q : State → Prop}
variable {mc ms : Nat} {free : Addr → Prop} {A0 A1 : Nat → Prop} {H0 : Heap} {a : Array Value} {ls : Array Slot} {st0 rest : List Value}
variable {Qc : Array Value → State → Outcome → State → Prop} {XC : String → State → State → Prop}
/-- what a body that may throw owes at its end -/
def vx_MQ (below : List Frame) (Qc : Array Value → State → Outcome → State → Prop) (XC : String → State → State → Prop) (a : Array Value) (s : State) (mc ms : Nat) (free : Addr → Prop) : State → Prop := fun t =>
  ∃ o, t.status = .running ∧ Ended t below o ∧ vx_Q Qc XC mc ms free a s o t
theorem vx_ret {g : JFrame} {mc ms : Nat} (k : W p l e R s m args below meth c H locs cells slots (MQ below Qc args s mc ms free) g) : W p l e R s m args below meth c H locs cells slots (vx_MQ below Qc XC args s mc ms free) g := by
  intro T hT X
  obtain ⟨t, a1, o, b1, b2, b3, b4⟩ := k T hT X
  exact ⟨t, a1, o, b1, b2, Or.inl ⟨b3, b4⟩⟩
/-- not caught here: it goes on to the caller -/
theorem vx_widen {g : JFrame} {q : Addr} {k n : Nat} (h1 : cells ≤ k) (h2 : slots ≤ n) (kk : vx_W p l e R s m args below meth c H locs k n Q g q) : vx_W p l e R s m args below meth c H locs cells slots Q g q := fun T hT X => kk T hT (stand_widen X h1 h2)
theorem vx_out {pc : Nat} {E : String} {ce : Cell} {q : Addr} {mc ms : Nat} (hout : ∀ x ∈ c.exceptionTable.toList, covers x pc = false) (hlocks : meth.locks = false) (hcell : H[q]? = some ce) (hv : ce.vm = .none) (hcl : s.vm.findClass E = some ce.cls)
    (hx : ∀ t : State, t.heap = H → s.vm.Alike t.vm → XC E s t) (hf : ∀ z ∈ locs, free z.base) (hc : cells ≤ mc) (hs : slots ≤ ms) :
    vx_W p l e R s m args below meth c H locs cells slots (vx_MQ below Qc XC args s mc ms free) (F0 m pc ls rest) q := by
  intro T hT X
  obtain ⟨st1, hrun, hend, hW, hsm⟩ := X.leaveThrown q (g := F0 m pc ls rest) rfl rfl rfl hout hlocks
  have hcell9 : (T.setFrames (.throwing q :: below)).heap[q]? = some ce := by
    show T.heap[q]? = some ce
    rw [hT]; exact hcell
  exact ⟨_, st1, .threw q, hrun, hend, Or.inr ⟨q, rfl, E, ce, locs, hx _ hT hW.alike, hcell9, hv, hcl, hW, hsm.mono hc hs, hf⟩⟩
theorem vx_frame {U : State} {k n : Nat} (h : s.sameButNew ({ U with vm := s.vm } : State) locs k n) : s.heap.size ≤ U.heap.size ∧ ∀ q : Nat, q < s.heap.size → (∀ z ∈ locs, z.base ≠ q) → U.heap[q]? = s.heap[q]? := by
  obtain ⟨-, h2, -, -, -, h6⟩ := h
  refine ⟨h2, fun q hq hz => ?_⟩
  obtain ⟨c9, e1, e2, e3, e4⟩ := h6 q _ (Array.getElem?_eq_getElem hq)
  have hs : c9.slots = (s.heap[q]).slots := Array.ext_getElem? fun i => e4 i fun hm => hz _ hm rfl
  have h9 : c9 = s.heap[q] := by
    rw [hs] at e2
    exact e2
  have e5 : U.heap[q]? = some c9 := e1
  rw [e5, h9, Array.getElem?_eq_getElem hq]
/-- the words of a throw but the four that speak of the heap -/
def vx_no (w : Cond) : Bool := decide (w ≠ .isRef (.static Bundle.tN "UNASSIGNED_STACK" Bundle.steD)) && decide (w ≠ .isRef (.static Bundle.tN "SUPPRESSED_SENTINEL" Bundle.listD)) && decide (w ≠ .laysStatic Bundle.tN "UNASSIGNED_STACK" Bundle.steD) && decide (w ≠ .laysStatic Bundle.tN "SUPPRESSED_SENTINEL" Bundle.listD)
def vx_at0 (own : String) (ic : Nat) (X : String) (names : List String) : List Cond := (Bundle.ownAtoms0 own ic X names).filter vx_no
def vx_atS (own : String) (ic : Nat) (X : String) (names : List String) : List Cond := (Bundle.ownAtoms own ic X names).filter vx_no
/-- a word that the tables alone decide, or a good one -/
def vx_ot (w : Cond) : Bool := w.onTables || goodWord w
theorem vx_ot_at {args a' : Array Value} {s U : State} {w : Cond} (hW : s.WarmedH U.vm) (hvm : s.vm = U.vm) (hg : vx_ot w = true) (h : w.before args s = true) : w.before a' U = true := by
  simp only [vx_ot, Bool.or_eq_true] at hg
  rcases hg with hg | hg
  · exact va_tabs hg hvm h
  · exact word_at hW (good_of_word hg) h
/-- a list's words: the good ones out of the method's own list, the others by premises of their own -/
theorem vx_hat {args : Array Value} {s : State} {L B : List Cond} (h1 : ∀ w ∈ L.filter goodWord, w.before args s = true) (h2 : ∀ w ∈ L.filter (fun w => !goodWord w), w ∈ B) (h3 : ∀ w ∈ B, w.before args s = true) : ∀ w ∈ L, w.before args s = true := by
  intro w hw
  by_cases g : goodWord w = true
  · exact h1 w (List.mem_filter.mpr ⟨hw, g⟩)
  · refine h3 w (h2 w (List.mem_filter.mpr ⟨hw, ?_⟩))
    show (!goodWord w) = true
    cases hgw : goodWord w
    · rfl
    · exact absurd hgw g
theorem vx_c {args : Array Value} {s : State} {w : Cond} {B : List Cond} (h : w.before args s = true) (t : ∀ w ∈ B, w.before args s = true) : ∀ w' ∈ w :: B, w'.before args s = true := fun w' h' => (List.mem_cons.mp h').elim (fun e => by rw [e]; exact h) (t w')
theorem vx_n {args : Array Value} {s : State} : ∀ w ∈ ([] : List Cond), w.before args s = true := fun _ h => nomatch h
theorem vx_own {args : Array Value} {s : State} {L : List Cond} (h1 : ∀ w ∈ L.filter vx_no, w.before args s = true)
    (hU : (Cond.isRef (.static Bundle.tN "UNASSIGNED_STACK" Bundle.steD)).before args s = true) (hN : (Cond.isRef (.static Bundle.tN "SUPPRESSED_SENTINEL" Bundle.listD)).before args s = true)
    (lU : (Cond.laysStatic Bundle.tN "UNASSIGNED_STACK" Bundle.steD).before args s = true) (lN : (Cond.laysStatic Bundle.tN "SUPPRESSED_SENTINEL" Bundle.listD).before args s = true) : ∀ w ∈ L, w.before args s = true := by
  intro w hw
  by_cases e1 : w = .isRef (.static Bundle.tN "UNASSIGNED_STACK" Bundle.steD)
  · rw [e1]; exact hU
  · by_cases e2 : w = .isRef (.static Bundle.tN "SUPPRESSED_SENTINEL" Bundle.listD)
    · rw [e2]; exact hN
    · by_cases e3 : w = .laysStatic Bundle.tN "UNASSIGNED_STACK" Bundle.steD
      · rw [e3]; exact lU
      · by_cases e4 : w = .laysStatic Bundle.tN "SUPPRESSED_SENTINEL" Bundle.listD
        · rw [e4]; exact lN
        · exact h1 w (List.mem_filter.mpr ⟨hw, by unfold vx_no; rw [decide_eq_true e1, decide_eq_true e2, decide_eq_true e3, decide_eq_true e4]; rfl⟩)
/-- where a static field lies, its class's statics cell in H -/
def vx_L (C n d : String) (A : Nat → Prop) (U : State) (H : Heap) : Prop := ∃ (c : ClassId) (k : Class) (i : Nat) (f : Field) (a : Nat) (cell : Cell), U.vm.findClass C = some c ∧ U.fieldFound? C n d = some (c, k, i, f) ∧ f.isStatic = true ∧ k.statics = some a ∧ H[a]? = some cell ∧ cell.vm.isStatics = true ∧ cell.cls = c ∧ f.slot < cell.slots.size ∧ k.staticTypes[f.slot]? = some f.type ∧ ¬ A a
theorem vx_L.moved {C n d : String} {A : Nat → Prop} {u U : State} {H : Heap} (hvm : u.vm.Alike U.vm) (h : vx_L C n d A u H) : vx_L C n d A U H := by
  obtain ⟨c, k, i, f, a, cell, h1, h2, h3, h4, h5, h6, h7, h8, h9, h10⟩ := h
  obtain ⟨k', hi', he⟩ := State.fieldFound?_setVm hvm h2
  exact ⟨c, k', i, f, a, cell, by rw [hvm.findClass]; exact h1, hi', h3, by rw [he]; exact h4, h5, h6, h7, h8, by rw [he]; exact h9, h10⟩
theorem vx_L.kept {C n d : String} {A : Nat → Prop} {U : State} {H H1 : Heap} (h : vx_L C n d A U H) (hq : ∀ a : Nat, a < H.size → ¬ A a → H1[a]? = H[a]?) : vx_L C n d A U H1 := by
  obtain ⟨c, k, i, f, a, cell, h1, h2, h3, h4, h5, h6, h7, h8, h9, h10⟩ := h
  exact ⟨c, k, i, f, a, cell, h1, h2, h3, h4, by rw [hq a (Array.getElem?_eq_some_iff.mp h5).1 h10]; exact h5, h6, h7, h8, h9, h10⟩
theorem vx_L.narrow {C n d : String} {A B : Nat → Prop} {U : State} {H : Heap} (h : vx_L C n d A U H) (hAB : ∀ q, B q → A q) : vx_L C n d B U H := by
  obtain ⟨c, k, i, f, a, cell, h1, h2, h3, h4, h5, h6, h7, h8, h9, h10⟩ := h
  exact ⟨c, k, i, f, a, cell, h1, h2, h3, h4, h5, h6, h7, h8, h9, fun z => h10 (hAB _ z)⟩
theorem vx_L.word {C n d : String} {A : Nat → Prop} {s : State} {args : Array Value} (h : vx_L C n d A s s.heap) : (Cond.laysStatic C n d).before args s = true := by
  obtain ⟨c, k, i, f, a, cell, h1, h2, h3, h4, h5, h6, h7, h8, h9, -⟩ := h
  show (Cond.laysStatic C n d).holds args s none s [] = true
  exact Cond.laysStatic_of h1 h2 h3 h4 h5 h6 h7 h8 h9
/-- .. and what it holds: null or some reference -/
def vx_Zq (C n d : String) (A : Nat → Prop) (U : State) (H : Heap) : Prop := va_Zq C n d A U H ∧ vx_L C n d A U H
theorem vx_Zq.moved {C n d : String} {A : Nat → Prop} {u U : State} {H : Heap} (hvm : u.vm.Alike U.vm) (h : vx_Zq C n d A u H) : vx_Zq C n d A U H := ⟨va_Zq.moved hvm h.1, vx_L.moved hvm h.2⟩
theorem vx_Zq.kept {C n d : String} {A : Nat → Prop} {U : State} {H H1 : Heap} (h : vx_Zq C n d A U H) (hq : ∀ a : Nat, a < H.size → ¬ A a → H1[a]? = H[a]?) : vx_Zq C n d A U H1 := ⟨va_Zq.kept h.1 hq, vx_L.kept h.2 hq⟩
theorem vx_Zq.narrow {C n d : String} {A B : Nat → Prop} {U : State} {H : Heap} (h : vx_Zq C n d A U H) (hAB : ∀ q, B q → A q) : vx_Zq C n d B U H := ⟨va_Zq.narrow h.1 hAB, vx_L.narrow h.2 hAB⟩
theorem vx_Zqof {args : Array Value} {s : State} {C n d : String} {A : Nat → Prop} (hl : (Cond.laysStatic C n d).before args s = true) (hini : (Cond.initialized C).before args s = true) (h : (Cond.isRef (.static C n d)).before args s = true) (hA : ∀ a : Nat, a < s.heap.size → ¬ A a) : vx_Zq C n d A s s.heap := by
  refine ⟨va_Zqof hl hini h hA, ?_⟩
  obtain ⟨c, k, i, f, a, cell, h1, h2, h3, h4, h5, h6, h7, h8, h9⟩ := Cond.laysStatic_spec hl
  exact ⟨c, k, i, f, a, cell, h1, h2, h3, h4, h5, h6, h7, h8, h9, hA a (Array.getElem?_eq_some_iff.mp h5).1⟩
theorem vx_isRef {C n d : String} {v : Value} {A : Nat → Prop} {s : State} {args : Array Value} (h : va_Z C n d v A s s.heap) (hv : v.isRef = true) : (Cond.isRef (.static C n d)).before args s = true := by
  obtain ⟨cf, kf, fi, f, a, cell, h1, h2, h3, h4, h5, h6, h7, -⟩ := h
  have he : (Term.static C n d).eval args s none [] s = some v := by
    simp [Term.eval, State.fieldNamed?, h1, h2, h4, h5, h6, h7]
  simp only [Cond.before, Cond.holds, Cond.value, he]
  cases v <;> simp_all [Value.isRef]
theorem vx_isRefq {C n d : String} {A : Nat → Prop} {s : State} {args : Array Value} (h : va_Zq C n d A s s.heap) : (Cond.isRef (.static C n d)).before args s = true := by
  rcases h with h | ⟨t, h⟩
  · exact vx_isRef h rfl
  · exact vx_isRef h rfl
/-- the same frame, seen from here: as if the method were called anew in this heap -/
theorem vx_rebase {T : State} (X : Stand p l e R s m args below meth c T locs cells slots) {R' : Room} (hf : R'.frames ≤ R.frames) (hl : R'.locals ≤ R.locals) (hc : cells + R'.cells ≤ R.cells) (hs : slots + R'.slots ≤ R.slots) :
    Stand p l e R' ((T.setVm s.vm).setFrames (.invoking m args :: below)) m args below meth c T [] 0 0 := by
  have htop : (T.setVm s.vm).topJava?.isSome := X.here.top
  have hF : ((T.setVm s.vm).setFrames (.invoking m args :: below)).frames = .invoking m args :: below := State.frames_setFrames _ (State.cur_lt_of_top htop)
  obtain ⟨g₀, hg0⟩ := Option.isSome_iff_exists.mp htop
  obtain ⟨r, hr⟩ := State.topJava?_eq_some.mp hg0
  have hl9 : e.platform.stackLimits (T.setVm s.vm).me = e.platform.stackLimits s.me := X.limits
  have hb9 : (T.setVm s.vm).me.stackBytes = s.me.stackBytes := X.bytes
  refine ⟨X.admits, X.cas, X.clock, hF, ?_, X.hears, X.method, X.code, X.here, X.tail, X.warmed, ?_, ?_, ?_⟩
  · have h := X.room
    have hU : ((T.setVm s.vm).setFrames (.invoking m args :: below)).localsInUse = s.localsInUse := by
      rw [State.localsInUse_invoking hF (meth := meth) (c := c) X.method X.code, State.localsInUse_invoking X.frames X.method X.code]
    simp only [State.hasRoom, Bool.and_eq_true, decide_eq_true_eq] at h ⊢
    obtain ⟨⟨⟨⟨h1, h2, h3, h4, h5, h6⟩, h7⟩, h8⟩, h9⟩ := h
    rw [X.frames, List.length_cons] at h2 h3
    have q1 := X.heapSize
    have q2 := X.used
    simp only [hF, hU, List.length_cons, State.stackLimits_setFrames, State.stackBytes_setFrames, hl9, hb9]
    refine ⟨⟨⟨⟨by omega, by omega, by omega, by omega, by omega, h6⟩, ?_⟩, ?_⟩, X.book⟩
    · show T.heap.size + R'.cells ≤ e.platform.maxCells
      omega
    · show T.slotsUsed + R'.slots ≤ e.platform.maxSlots
      omega
  · rw [State.stackLimits_setFrames]; rfl
  · rw [State.stackBytes_setFrames]; rfl
  · refine ⟨?_, Nat.le_refl _, Nat.le_refl _, ?_, ?_, fun a c9 h9 => ⟨c9, h9, rfl, rfl, fun _ _ => rfl⟩⟩
    · obtain ⟨t, ht, -⟩ := State.frames_cons hr
      show T.setVm s.vm = { ((T.setVm s.vm).setFrames (.invoking m args :: below)).setFrames (T.setVm s.vm).frames with heap := T.heap, slotsUsed := T.slotsUsed }
      rw [State.setFrames_setFrames, State.setFrames_self ht]
      rfl
    · show T.slotsUsed = T.slotsUsed + ((T.heap.toList.drop T.heap.size).map (·.slots.size)).sum
      rw [List.drop_eq_nil_of_le (Nat.le_of_eq Array.length_toList)]
      rfl
    · show ((T.heap.toList.drop T.heap.size).map (·.slots.size)).sum ≤ 0
      rw [List.drop_eq_nil_of_le (Nat.le_of_eq Array.length_toList)]
      exact Nat.le_refl _
/-- 'throw new E()': new; dup; invokespecial; athrow -/
theorem vx_throw0 {cc : ByteArray} {pc : Nat} (hexec : p.tables.exec = Jvm.exec) (hb : c.code = cc) (hl : l.stackTraces = false) {own cls : String} {names : List String} {ik ic mc ms : Nat} {A : Nat → Prop}
    (hown : s.vm.findClass own = some m.cls) (hcls : Bundle.fit cls = true) (hnames : ∀ n ∈ names, Bundle.fit n = true)
    (hk : (Cond.classLink own ik cls).before args s = true) (hini : (Cond.initialized cls).before args s = true) (hat : ∀ w ∈ vx_at0 own ic cls names, w.before args s = true)
    (hgood : ∀ w ∈ Cond.classLink own ik cls :: Cond.initialized cls :: vx_at0 own ic cls names, vx_ot w = true)
    (hU : vx_Zq Bundle.tN "UNASSIGNED_STACK" Bundle.steD A s s.heap) (hN : vx_Zq Bundle.tN "SUPPRESSED_SENTINEL" Bundle.listD A s s.heap) (hS : va_S A s.heap H locs) (hsize : ls.size = c.maxLocals)
    (d0 : decode cc pc = .ok (.new ik, 3)) (d3 : decode cc (pc + 3) = .ok (.dup, 1)) (d4 : decode cc (pc + 4) = .ok (.invokespecial ic, 3)) (d7 : decode cc (pc + 7) = .ok (.athrow, 1))
    (hout : ∀ x ∈ c.exceptionTable.toList, covers x (pc + 7) = false)
    (hRframes : names.length + 3 < R.frames) (hRlocals : (rest.map fun v => v.category).sum + (13 * (names.length + 1) + 42) ≤ R.locals) (hRcells : cells + 1 ≤ R.cells) (hRslots : slots + 6 ≤ R.slots) (hlocks : meth.locks = false)
    (hx : ∀ t : State, s.vm.Alike t.vm → H.size ≤ t.heap.size → (∀ q : Nat, q < H.size → t.heap[q]? = H[q]?) → XC cls s t)
    (hf : ∀ z ∈ locs, free z.base) (hc : cells + 1 ≤ mc) (hs : slots + 6 ≤ ms) :
    W p l e R s m args below meth c H locs cells slots (vx_MQ below Qc XC args s mc ms free) (F0 m pc ls rest) := by
  intro T hT X
  have htr : e.platform.stackTraces = false := (show e.platform.stackTraces = l.stackTraces by rw [X.admits.platform]).trans hl
  have Y := vx_rebase X (R' := { frames := R.frames, locals := R.locals, cells := 1, slots := 6 }) (Nat.le_refl _) (Nat.le_refl _) hRcells hRslots
  obtain ⟨s', hA⟩ : ∃ z, z = (T.setVm s.vm).setFrames (.invoking m args :: below) := ⟨_, rfl⟩
  rw [← hA] at Y
  have hvm : s'.vm = s.vm := by rw [hA]; rfl
  have hhp : s'.heap = H := by rw [hA]; exact hT
  have hW0 : s.WarmedH s'.vm := by rw [hvm]; exact State.WarmedH.refl s
  have hat' : ∀ w ∈ vx_at0 own ic cls names, w.before args s' = true := fun w hw => vx_ot_at hW0 hvm.symm (hgood w (List.mem_cons_of_mem _ (List.mem_cons_of_mem _ hw))) (hat w hw)
  have hk' : (Cond.classLink own ik cls).before args s' = true := vx_ot_at hW0 hvm.symm (hgood _ List.mem_cons_self) hk
  have hini' : (Cond.initialized cls).before args s' = true := vx_ot_at hW0 hvm.symm (hgood _ (List.mem_cons_of_mem _ List.mem_cons_self)) hini
  have hU' : vx_Zq Bundle.tN "UNASSIGNED_STACK" Bundle.steD A s' s'.heap := by rw [hhp]; exact vx_Zq.moved hW0.alike (hU.kept hS.2.1)
  have hN' : vx_Zq Bundle.tN "SUPPRESSED_SENTINEL" Bundle.listD A s' s'.heap := by rw [hhp]; exact vx_Zq.moved hW0.alike (hN.kept hS.2.1)
  have h : ∀ w ∈ Bundle.ownAtoms0 own ic cls names, w.before args s' = true := vx_own hat' (vx_isRefq hU'.1) (vx_isRefq hN'.1) hU'.2.word hN'.2.word
  have hown' : s'.vm.findClass own = some m.cls := by rw [hvm]; exact hown
  have hins : (Cond.instantiable cls 6).before args s' = true := h _ (by simp [Bundle.ownAtoms0])
  obtain ⟨vm₁, cX, kX, hfX, hkX, -, -, X₁, st1⟩ := Y.newCold hexec (own := own) (C := cls) (index := ik) (n := 6) hown' hk' hins hini'
    (g := F0 m pc ls rest) rfl (by rw [hb]; exact d0) (Nat.le_refl _) (Nat.le_refl _)
  generalize hT1 : (T.setVm vm₁).pushCell { cls := cX, slots := kX.instanceTypes.map defaultValue, vm := .none } = T1 at X₁ st1
  have hcat : (Value.ref T.heap.size).category = 1 := rfl
  have hcellA : T1.heap[T.heap.size]? = some (freshCell cX kX) := by rw [← hT1]; exact State.heap_pushCell_size _ _
  have d3' : decode c.code (pc + 3) = .ok (.dup, 1) := by rw [hb]; exact d3
  obtain ⟨U, hsteps, hrun, hend, hW, hsame, ce, hce, hO⟩ := X₁.ctorThrow0 hexec htr (own := own) (cls := cls) (names := names) (ic := ic) hown' hcls hnames h (fun x hx => nomatch hx) hfX hkX hcellA (by rw [hhp, hT]; exact Nat.le_refl _)
    (g := { method := m, pc := pc + 4, locals := ls, stack := .ref T.heap.size :: .ref T.heap.size :: rest, locked := none }) rfl hsize rfl rfl (rest := rest) rfl
    (by rw [hb]; exact d4) (by rw [hb]; exact d7) hout hRframes (by simp only [List.map_cons, List.sum_cons, hcat]; omega) hlocks
  obtain ⟨f1, f2⟩ := vx_frame hsame
  rw [hhp] at f1 f2
  have hWs : s.WarmedH U.vm := State.WarmedH.trans hW0 hW
  have hcl : s.vm.findClass cls = some ce.cls := by
    have h9 := hO.cls
    rw [hvm] at h9
    exact h9
  have hall : s.sameButNew ({ U with vm := s.vm } : State) locs mc ms := by
    subst hA
    obtain ⟨e1, e2⟩ := hsame
    rw [State.setFrames_setFrames] at e1
    have h2 : (T.setVm s.vm).sameButNew ({ U with vm := s.vm } : State) [] (0 + 1) (0 + 6) := ⟨e1, e2⟩
    have h3 := X.same.trans h2
    rw [List.append_nil] at h3
    exact h3.mono hc hs
  refine ⟨U, ?_, .threw T.heap.size, hrun, hend, Or.inr ⟨T.heap.size, rfl, cls, ce, locs, hx U hWs.alike f1 (fun q hq => f2 q hq (fun z hz => nomatch hz)), hce, hO.vm, hcl, hWs, hall, hf⟩⟩
  refine st1 _ ?_
  show Steps p.tables e below (T1.setTop { method := m, pc := pc + 3, locals := ls, stack := .ref T.heap.size :: rest, locked := none }) _
  jvm_step X₁.here [X₁.here.top, hexec, d3', Value.category]
  exact hsteps
/-- 'throw new E("text")': new; dup; ldc; invokespecial; athrow -/
theorem vx_throwS {cc : ByteArray} {pc : Nat} (hexec : p.tables.exec = Jvm.exec) (hb : c.code = cc) (hl : l.stackTraces = false) {own cls text : String} {names : List String} {ik is ic mc ms sa : Nat} {A : Nat → Prop}
    (hown : s.vm.findClass own = some m.cls) (hcls : Bundle.fit cls = true) (hnames : ∀ n ∈ names, Bundle.fit n = true)
    (hk : (Cond.classLink own ik cls).before args s = true) (hini : (Cond.initialized cls).before args s = true) (hstr : vk_R own is text sa s) (hat : ∀ w ∈ vx_atS own ic cls names, w.before args s = true)
    (hgood : ∀ w ∈ Cond.classLink own ik cls :: Cond.initialized cls :: vx_atS own ic cls names, vx_ot w = true)
    (hU : vx_Zq Bundle.tN "UNASSIGNED_STACK" Bundle.steD A s s.heap) (hN : vx_Zq Bundle.tN "SUPPRESSED_SENTINEL" Bundle.listD A s s.heap) (hS : va_S A s.heap H locs) (hsize : ls.size = c.maxLocals)
    (d0 : decode cc pc = .ok (.new ik, 3)) (d3 : decode cc (pc + 3) = .ok (.dup, 1)) (d4 : decode cc (pc + 4) = .ok (.ldc is, 2)) (d6 : decode cc (pc + 6) = .ok (.invokespecial ic, 3)) (d9 : decode cc (pc + 9) = .ok (.athrow, 1))
    (hout : ∀ x ∈ c.exceptionTable.toList, covers x (pc + 9) = false)
    (hRframes : names.length + 3 < R.frames) (hRlocals : (rest.map fun v => v.category).sum + (13 * (names.length + 1) + 43) ≤ R.locals) (hRcells : cells + 1 ≤ R.cells) (hRslots : slots + 6 ≤ R.slots) (hlocks : meth.locks = false)
    (hx : ∀ t : State, s.vm.Alike t.vm → H.size ≤ t.heap.size → (∀ q : Nat, q < H.size → t.heap[q]? = H[q]?) → XC cls s t)
    (hf : ∀ z ∈ locs, free z.base) (hc : cells + 1 ≤ mc) (hs : slots + 6 ≤ ms) :
    W p l e R s m args below meth c H locs cells slots (vx_MQ below Qc XC args s mc ms free) (F0 m pc ls rest) := by
  intro T hT X
  have htr : e.platform.stackTraces = false := (show e.platform.stackTraces = l.stackTraces by rw [X.admits.platform]).trans hl
  have Y := vx_rebase X (R' := { frames := R.frames, locals := R.locals, cells := 1, slots := 6 }) (Nat.le_refl _) (Nat.le_refl _) hRcells hRslots
  obtain ⟨s', hA⟩ : ∃ z, z = (T.setVm s.vm).setFrames (.invoking m args :: below) := ⟨_, rfl⟩
  rw [← hA] at Y
  have hvm : s'.vm = s.vm := by rw [hA]; rfl
  have hhp : s'.heap = H := by rw [hA]; exact hT
  have hW0 : s.WarmedH s'.vm := by rw [hvm]; exact State.WarmedH.refl s
  have hat' : ∀ w ∈ vx_atS own ic cls names, w.before args s' = true := fun w hw => vx_ot_at hW0 hvm.symm (hgood w (List.mem_cons_of_mem _ (List.mem_cons_of_mem _ hw))) (hat w hw)
  have hk' : (Cond.classLink own ik cls).before args s' = true := vx_ot_at hW0 hvm.symm (hgood _ List.mem_cons_self) hk
  have hini' : (Cond.initialized cls).before args s' = true := vx_ot_at hW0 hvm.symm (hgood _ (List.mem_cons_of_mem _ List.mem_cons_self)) hini
  have hU' : vx_Zq Bundle.tN "UNASSIGNED_STACK" Bundle.steD A s' s'.heap := by rw [hhp]; exact vx_Zq.moved hW0.alike (hU.kept hS.2.1)
  have hN' : vx_Zq Bundle.tN "SUPPRESSED_SENTINEL" Bundle.listD A s' s'.heap := by rw [hhp]; exact vx_Zq.moved hW0.alike (hN.kept hS.2.1)
  have h : ∀ w ∈ Bundle.ownAtoms own ic cls names, w.before args s' = true := vx_own hat' (vx_isRefq hU'.1) (vx_isRefq hN'.1) hU'.2.word hN'.2.word
  have hown' : s'.vm.findClass own = some m.cls := by rw [hvm]; exact hown
  have hins : (Cond.instantiable cls 6).before args s' = true := h _ (by simp [Bundle.ownAtoms])
  obtain ⟨vm₁, cX, kX, hfX, hkX, -, -, X₁, st1⟩ := Y.newCold hexec (own := own) (C := cls) (index := ik) (n := 6) hown' hk' hins hini'
    (g := F0 m pc ls rest) rfl (by rw [hb]; exact d0) (Nat.le_refl _) (Nat.le_refl _)
  generalize hT1 : (T.setVm vm₁).pushCell { cls := cX, slots := kX.instanceTypes.map defaultValue, vm := .none } = T1 at X₁ st1
  have hcat : (Value.ref T.heap.size).category = 1 := rfl
  have hcellA : T1.heap[T.heap.size]? = some (freshCell cX kX) := by rw [← hT1]; exact State.heap_pushCell_size _ _
  have d3' : decode c.code (pc + 3) = .ok (.dup, 1) := by rw [hb]; exact d3
  have d4' : decode c.code (pc + 4) = .ok (.ldc is, 2) := by rw [hb]; exact d4
  have hstr' : vk_R own is text sa s' := vk_R.warm hW0 hstr
  obtain ⟨U, hsteps, hrun, hend, hW, hsame, ce, hce, hO⟩ := X₁.ctorThrowS hexec htr (own := own) (cls := cls) (names := names) (ic := ic) hown' hcls hnames h (fun x hx => nomatch hx) hfX hkX hcellA (by rw [hhp, hT]; exact Nat.le_refl _) (msg := .ref sa) rfl
    (g := { method := m, pc := pc + 6, locals := ls, stack := .ref sa :: .ref T.heap.size :: .ref T.heap.size :: rest, locked := none }) rfl hsize rfl rfl (rest := rest) rfl
    (by rw [hb]; exact d6) (by rw [hb]; exact d9) hout hRframes (by simp only [List.map_cons, List.sum_cons, hcat]; omega) hlocks
  obtain ⟨f1, f2⟩ := vx_frame hsame
  rw [hhp] at f1 f2
  have hWs : s.WarmedH U.vm := State.WarmedH.trans hW0 hW
  have hcl : s.vm.findClass cls = some ce.cls := by
    have h9 := hO.cls
    rw [hvm] at h9
    exact h9
  have hall : s.sameButNew ({ U with vm := s.vm } : State) locs mc ms := by
    subst hA
    obtain ⟨e1, e2⟩ := hsame
    rw [State.setFrames_setFrames] at e1
    have h2 : (T.setVm s.vm).sameButNew ({ U with vm := s.vm } : State) [] (0 + 1) (0 + 6) := ⟨e1, e2⟩
    have h3 := X.same.trans h2
    rw [List.append_nil] at h3
    exact h3.mono hc hs
  refine ⟨U, ?_, .threw T.heap.size, hrun, hend, Or.inr ⟨T.heap.size, rfl, cls, ce, locs, hx U hWs.alike f1 (fun q hq => f2 q hq (fun z hz => nomatch hz)), hce, hO.vm, hcl, hWs, hall, hf⟩⟩
  refine st1 _ ?_
  show Steps p.tables e below (T1.setTop { method := m, pc := pc + 3, locals := ls, stack := .ref T.heap.size :: rest, locked := none }) _
  jvm_step X₁.here [X₁.here.top, hexec, d3', Value.category]
  exact X₁.ldcString hexec (own := own) (text := text) (index := is) (a := sa) hown' hstr'.1 hstr'.2
    (g := { method := m, pc := pc + 4, locals := ls, stack := .ref T.heap.size :: .ref T.heap.size :: rest, locked := none }) rfl d4' _ hsteps
/-- 'throw new E("text")', the text by a wide index -/
theorem vx_throwSW {cc : ByteArray} {pc : Nat} (hexec : p.tables.exec = Jvm.exec) (hb : c.code = cc) (hl : l.stackTraces = false) {own cls text : String} {names : List String} {ik is ic mc ms sa : Nat} {A : Nat → Prop}
    (hown : s.vm.findClass own = some m.cls) (hcls : Bundle.fit cls = true) (hnames : ∀ n ∈ names, Bundle.fit n = true)
    (hk : (Cond.classLink own ik cls).before args s = true) (hini : (Cond.initialized cls).before args s = true) (hstr : vk_R own is text sa s) (hat : ∀ w ∈ vx_atS own ic cls names, w.before args s = true)
    (hgood : ∀ w ∈ Cond.classLink own ik cls :: Cond.initialized cls :: vx_atS own ic cls names, vx_ot w = true)
    (hU : vx_Zq Bundle.tN "UNASSIGNED_STACK" Bundle.steD A s s.heap) (hN : vx_Zq Bundle.tN "SUPPRESSED_SENTINEL" Bundle.listD A s s.heap) (hS : va_S A s.heap H locs) (hsize : ls.size = c.maxLocals)
    (d0 : decode cc pc = .ok (.new ik, 3)) (d3 : decode cc (pc + 3) = .ok (.dup, 1)) (d4 : decode cc (pc + 4) = .ok (.ldc_w is, 3)) (d7 : decode cc (pc + 7) = .ok (.invokespecial ic, 3)) (d10 : decode cc (pc + 10) = .ok (.athrow, 1))
    (hout : ∀ x ∈ c.exceptionTable.toList, covers x (pc + 10) = false)
    (hRframes : names.length + 3 < R.frames) (hRlocals : (rest.map fun v => v.category).sum + (13 * (names.length + 1) + 43) ≤ R.locals) (hRcells : cells + 1 ≤ R.cells) (hRslots : slots + 6 ≤ R.slots) (hlocks : meth.locks = false)
    (hx : ∀ t : State, s.vm.Alike t.vm → H.size ≤ t.heap.size → (∀ q : Nat, q < H.size → t.heap[q]? = H[q]?) → XC cls s t)
    (hf : ∀ z ∈ locs, free z.base) (hc : cells + 1 ≤ mc) (hs : slots + 6 ≤ ms) :
    W p l e R s m args below meth c H locs cells slots (vx_MQ below Qc XC args s mc ms free) (F0 m pc ls rest) := by
  intro T hT X
  have htr : e.platform.stackTraces = false := (show e.platform.stackTraces = l.stackTraces by rw [X.admits.platform]).trans hl
  have Y := vx_rebase X (R' := { frames := R.frames, locals := R.locals, cells := 1, slots := 6 }) (Nat.le_refl _) (Nat.le_refl _) hRcells hRslots
  obtain ⟨s', hA⟩ : ∃ z, z = (T.setVm s.vm).setFrames (.invoking m args :: below) := ⟨_, rfl⟩
  rw [← hA] at Y
  have hvm : s'.vm = s.vm := by rw [hA]; rfl
  have hhp : s'.heap = H := by rw [hA]; exact hT
  have hW0 : s.WarmedH s'.vm := by rw [hvm]; exact State.WarmedH.refl s
  have hat' : ∀ w ∈ vx_atS own ic cls names, w.before args s' = true := fun w hw => vx_ot_at hW0 hvm.symm (hgood w (List.mem_cons_of_mem _ (List.mem_cons_of_mem _ hw))) (hat w hw)
  have hk' : (Cond.classLink own ik cls).before args s' = true := vx_ot_at hW0 hvm.symm (hgood _ List.mem_cons_self) hk
  have hini' : (Cond.initialized cls).before args s' = true := vx_ot_at hW0 hvm.symm (hgood _ (List.mem_cons_of_mem _ List.mem_cons_self)) hini
  have hU' : vx_Zq Bundle.tN "UNASSIGNED_STACK" Bundle.steD A s' s'.heap := by rw [hhp]; exact vx_Zq.moved hW0.alike (hU.kept hS.2.1)
  have hN' : vx_Zq Bundle.tN "SUPPRESSED_SENTINEL" Bundle.listD A s' s'.heap := by rw [hhp]; exact vx_Zq.moved hW0.alike (hN.kept hS.2.1)
  have h : ∀ w ∈ Bundle.ownAtoms own ic cls names, w.before args s' = true := vx_own hat' (vx_isRefq hU'.1) (vx_isRefq hN'.1) hU'.2.word hN'.2.word
  have hown' : s'.vm.findClass own = some m.cls := by rw [hvm]; exact hown
  have hins : (Cond.instantiable cls 6).before args s' = true := h _ (by simp [Bundle.ownAtoms])
  obtain ⟨vm₁, cX, kX, hfX, hkX, -, -, X₁, st1⟩ := Y.newCold hexec (own := own) (C := cls) (index := ik) (n := 6) hown' hk' hins hini'
    (g := F0 m pc ls rest) rfl (by rw [hb]; exact d0) (Nat.le_refl _) (Nat.le_refl _)
  generalize hT1 : (T.setVm vm₁).pushCell { cls := cX, slots := kX.instanceTypes.map defaultValue, vm := .none } = T1 at X₁ st1
  have hcat : (Value.ref T.heap.size).category = 1 := rfl
  have hcellA : T1.heap[T.heap.size]? = some (freshCell cX kX) := by rw [← hT1]; exact State.heap_pushCell_size _ _
  have d3' : decode c.code (pc + 3) = .ok (.dup, 1) := by rw [hb]; exact d3
  have d4' : decode c.code (pc + 4) = .ok (.ldc_w is, 3) := by rw [hb]; exact d4
  have hstr' : vk_R own is text sa s' := vk_R.warm hW0 hstr
  obtain ⟨U, hsteps, hrun, hend, hW, hsame, ce, hce, hO⟩ := X₁.ctorThrowS hexec htr (own := own) (cls := cls) (names := names) (ic := ic) hown' hcls hnames h (fun x hx => nomatch hx) hfX hkX hcellA (by rw [hhp, hT]; exact Nat.le_refl _) (msg := .ref sa) rfl
    (g := { method := m, pc := pc + 7, locals := ls, stack := .ref sa :: .ref T.heap.size :: .ref T.heap.size :: rest, locked := none }) rfl hsize rfl rfl (rest := rest) rfl
    (by rw [hb]; exact d7) (by rw [hb]; exact d10) hout hRframes (by simp only [List.map_cons, List.sum_cons, hcat]; omega) hlocks
  obtain ⟨f1, f2⟩ := vx_frame hsame
  rw [hhp] at f1 f2
  have hWs : s.WarmedH U.vm := State.WarmedH.trans hW0 hW
  have hcl : s.vm.findClass cls = some ce.cls := by
    have h9 := hO.cls
    rw [hvm] at h9
    exact h9
  have hall : s.sameButNew ({ U with vm := s.vm } : State) locs mc ms := by
    subst hA
    obtain ⟨e1, e2⟩ := hsame
    rw [State.setFrames_setFrames] at e1
    have h2 : (T.setVm s.vm).sameButNew ({ U with vm := s.vm } : State) [] (0 + 1) (0 + 6) := ⟨e1, e2⟩
    have h3 := X.same.trans h2
    rw [List.append_nil] at h3
    exact h3.mono hc hs
  refine ⟨U, ?_, .threw T.heap.size, hrun, hend, Or.inr ⟨T.heap.size, rfl, cls, ce, locs, hx U hWs.alike f1 (fun q hq => f2 q hq (fun z hz => nomatch hz)), hce, hO.vm, hcl, hWs, hall, hf⟩⟩
  refine st1 _ ?_
  show Steps p.tables e below (T1.setTop { method := m, pc := pc + 3, locals := ls, stack := .ref T.heap.size :: rest, locked := none }) _
  jvm_step X₁.here [X₁.here.top, hexec, d3', Value.category]
  exact X₁.ldcStringW hexec (own := own) (text := text) (index := is) (a := sa) hown' hstr'.1 hstr'.2
    (g := { method := m, pc := pc + 4, locals := ls, stack := .ref T.heap.size :: .ref T.heap.size :: rest, locked := none }) rfl d4' _ hsteps
end Ends
section Bodies
variable {l : Launch}
theorem vx_ofW {y : MethodName} {ws ws' : List Cond} {rm : Room} {Pc : Array Value → State → Prop} {Qc : Array Value → State → Outcome → State → Prop} {XC : String → State → State → Prop} {mc ms : Nat} {free : Addr → Prop} {cc : ByteArray} {maxL : Nat} {ret : Option FieldType}
    (hy : plainName y.cls = true) (hw : ws = Cond.code y cc maxL ret :: ws')
    (body : ∀ p e s m args below meth c s₁, BodyLoose p l y (headSpec ws rm) cc maxL ret e s m args below meth c s₁ → c.maxLocals = maxL → (∀ x ∈ c.exceptionTable.toList, False) → Pc args s →
      W p l e (headSpec ws rm).room s m args below meth c s.heap [] 0 0 (vx_MQ below Qc XC args s mc ms free) (entryFrame m args maxL)) : vx_Met l y ws rm Pc Qc XC mc ms free := by
  refine MetFree.of_bodyS (code := cc) (maxLocals := maxL) (ret := ret) hy ?_ ?_
  · intro args s m h hn
    obtain ⟨meth, c, h1, h2, h3, h4, h5, h6, -, -⟩ := Cond.code_spec hn (atoms_spec (ws := ws) h _ (by rw [hw]; exact List.mem_cons_self))
    exact ⟨meth, c, h1, h2, h3, h4, h5, h6⟩
  · intro p e s m args below meth c s₁ B hml hP _
    have hh0 : s₁.heap = s.heap := by rw [B.state]; rfl
    have ht : ∀ x ∈ c.exceptionTable.toList, False := by
      obtain ⟨meth9, c9, h1, h2, -, -, -, -, h7, -⟩ := Cond.code_spec B.named (atoms_spec (ws := ws) B.pre _ (by rw [hw]; exact List.mem_cons_self))
      cases Option.some.inj (h1.symm.trans B.method)
      cases Option.some.inj (h2.symm.trans (Stand.of_body B).code)
      intro x hx
      rw [Array.isEmpty_iff.mp h7] at hx
      cases hx
    obtain ⟨t, a1, o, b1, b2, b3⟩ := body p e s m args below meth c s₁ B hml ht hP s₁ hh0 (Stand.of_body B)
    exact ⟨t, o, a1, b1, b2, b3⟩
/-- the table of a body with handlers -/
theorem vx_table {p : Program} {x y : MethodName} {S : Spec} {cc bytes : ByteArray} {maxL maxL' : Nat} {ret ret' : Option FieldType} {e : Env} {s s₁ : State} {m : MethodId} {args : Array Value} {below : List Frame} {meth : Method} {c : Code} {hh : List (Nat × Nat × Nat × Nat)}
    (B : BodyLoose p l y S cc maxL ret e s m args below meth c s₁) (h : (Cond.codeWith y bytes maxL' ret' hh).before args s = true) : c.exceptionTable.toList = tableOf hh := by
  obtain ⟨m9, meth9, c9, hn9, h1, h2, -, -, h6, -⟩ := Cond.codeWith_spec h
  cases Option.some.inj (hn9.symm.trans B.named)
  cases Option.some.inj (h1.symm.trans B.method)
  cases Option.some.inj (h2.symm.trans (Stand.of_body B).code)
  rw [← h6, table_eq]
end Bodies
end VXA
/-! ===== END ===== -/
/-! ===== BEGIN a static call of a method with an exception table ===== -/
section VXS
variable {p : Program} {l : Launch} {e : Env} {R : Room} {s : State} {m : MethodId} {args : Array Value} {below : List Frame} {meth : Method} {c : Code} {T : State} {H : Heap} {locs : List Loc} {cells slots : Nat}
abbrev vx_CSW (R : Room) (s : State) (args : Array Value) (own : String) (index : Nat) (y : MethodName) (bytes : ByteArray) (maxL : Nat) (ret : Option FieldType) (hh : List (Nat × Nat × Nat × Nat)) (ws : List Cond) (rm : Room) (mc ms n : Nat) : Prop :=
  (rm.cells = mc ∧ rm.slots = ms ∧ rm.frames + 1 ≤ R.frames ∧ 8 + (maxL + 11) + rm.locals ≤ R.locals ∧ (∀ w ∈ ws, ∀ (a' : Array Value) (U : State), s.WarmedH U.vm → w.before a' U = true) ∧ Cond.codeWith y bytes maxL ret hh ∈ ws) ∧
  (Cond.codeWith y bytes maxL ret hh).before args s = true ∧ (Cond.initialized y.cls).before args s = true ∧ (y.cls ≠ "java/lang/invoke/MethodHandle" ∧ y.cls ≠ "java/lang/invoke/VarHandle") ∧
  (∀ sig, parseMethodDescriptor y.desc = some sig → n = sig.parameters.length) ∧ (Cond.methodLink own index y).before args s = true ∧ (Cond.static y).before args s = true
theorem vx_cwSW {own : String} {index maxL mc ms : Nat} {y : MethodName} {bytes : ByteArray} {ret : Option FieldType} {hh : List (Nat × Nat × Nat × Nat)} {Ts ws ws' : List Cond} {rm : Room} (n : Nat) (ht : ∀ w ∈ Ts, w.before args s = true) (hT : GoodIn Ts (va_wsS own index y ws)) (hw : ws = Cond.codeWith y bytes maxL ret hh :: ws') (hrc : rm.cells = mc) (hrs : rm.slots = ms)
    (hd : y.cls ≠ "java/lang/invoke/MethodHandle" ∧ y.cls ≠ "java/lang/invoke/VarHandle" ∧ (parseMethodDescriptor y.desc).map (fun d => d.parameters.length) = some n) (hR : rm.frames + 1 ≤ R.frames ∧ 8 + (maxL + 11) + rm.locals ≤ R.locals) :
    vx_CSW R s args own index y bytes maxL ret hh ws rm mc ms n := by
  have ok : ∀ w ∈ va_wsS own index y ws, w.before args s = true := fun w h => ht w (hT w h).1
  have hG : GoodIn Ts ws := fun w h => hT w (by unfold va_wsS; exact List.mem_append_right _ h)
  have hc : Cond.codeWith y bytes maxL ret hh ∈ ws := by rw [hw]; exact List.mem_cons_self
  refine ⟨⟨hrc, hrs, hR.1, hR.2, pay_in ht hG, hc⟩, ht _ (hG _ hc).1, ok _ (by simp [va_wsS]), ⟨hd.1, hd.2.1⟩, fun sig h => ?_, ok _ (by simp [va_wsS]), ok _ (by simp [va_wsS])⟩
  have h2 := hd.2.2
  rw [h] at h2
  exact (Option.some.inj h2).symm
theorem vx_callSW (X : Stand p l e R s m args below meth c T locs cells slots) (hexec : p.tables.exec = Jvm.exec) {own : String} {index : Nat} {y : MethodName} {bytes : ByteArray} {maxL : Nat} {ret : Option FieldType} {hh : List (Nat × Nat × Nat × Nat)}
    (hown : s.vm.findClass own = some m.cls) (hlink : (Cond.methodLink own index y).before args s = true) (hstat : (Cond.static y).before args s = true) (hinit : (Cond.initialized y.cls).before args s = true)
    (hcode : (Cond.codeWith y bytes maxL ret hh).before args s = true) (hy : y.cls ≠ "java/lang/invoke/MethodHandle" ∧ y.cls ≠ "java/lang/invoke/VarHandle")
    {W9 : Nat} {Pre : Pt → Array Value → Prop} {Post : Pt → Array Value → Option Value → Pt → Prop} (hK : Back l R p e below s args y 3 W9 Pre Post)
    {g : JFrame} (hg : g.method = m) (hsize : g.locals.size = c.maxLocals) {argsL rest : List Value} (hlen : ∀ sig, parseMethodDescriptor y.desc = some sig → argsL.length = sig.parameters.length)
    (hstack : g.stack = argsL.reverse ++ rest) (hW : 2 * g.monitorRoom + (rest.map fun v => v.category).sum ≤ W9) (hdg : decode c.code g.pc = .ok (.invokestatic index, 3))
    (hpre : ∀ vm₁, s.WarmedH vm₁ → Pre ⟨T.setVm vm₁, locs, cells, slots⟩ argsL.toArray) :
    ∃ (v : Option Value) (vm₁ : Vm) (B : Pt), s.WarmedH vm₁ ∧ Stand p l e R s m args below meth c B.U B.locs B.cells B.slots ∧ Post ⟨T.setVm vm₁, locs, cells, slots⟩ argsL.toArray v B ∧
      ∀ target, Steps p.tables e below (B.U.setTop { g with pc := g.pc + 3, stack := v.toList ++ rest }) target → Steps p.tables e below (T.setTop g) target := by
  obtain ⟨mk, methM, cM, hnamed, hmethM, -, -, -, -, -, -, hsigM⟩ := Cond.codeWith_spec hcode
  have hstatic : methM.isStatic = true := Cond.static_spec hnamed hmethM hstat
  obtain ⟨kP, hkP, -⟩ := className_of_methodNamed hnamed
  have hinitP : kP.init = .initialized := Cond.initialized_spec (findClass_of_methodNamed hnamed) hkP hinit
  obtain ⟨vm₁, X₁, hstep₁⟩ := X.invokestatic hexec hown hlink hnamed hmethM hstatic hkP hinitP hy (g := g) hg (argsL := argsL) (rest := rest) (hlen _ hsigM) hstack hdg
  obtain ⟨v, B, X', hpost, hsteps⟩ := hK m meth c ⟨T.setVm vm₁, locs, cells, slots⟩ { g with stack := rest } (.invokestatic index) mk argsL.toArray X₁ hg hsize hdg hW (X₁.named hnamed) (hpre vm₁ X₁.warmed)
  exact ⟨v, vm₁, B, X₁.warmed, X', hpost, fun target h => hstep₁ _ fun acts => by rw [doInvoke_state]; exact hsteps.trans h⟩
theorem vx_runSW {y : MethodName} {bytes cc : ByteArray} {maxL nL mc ms n index : Nat} {ret : Option FieldType} {hh : List (Nat × Nat × Nat × Nat)} {ws : List Cond} {rm : Room} {Pc : Array Value → State → Prop} {Qc : Array Value → State → Outcome → State → Prop} {free : Addr → Prop} {Ts : List Cond} {own : String} {As rest : List Value} {g : JFrame}
    (S : CallFix p m c cc nL s args Ts own) (hM : Met l y ws rm Pc Qc mc ms free) (cw : vx_CSW R s args own index y bytes maxL ret hh ws rm mc ms n) (hp : PreS s H Pc As)
    (hg : g.method = m) (hn : As.length = n) (hsize : g.locals.size = nL) (hstack : g.stack = As.reverse ++ rest) (hW : 2 * g.monitorRoom + (rest.map fun v => v.category).sum ≤ 8) (hdg : decode cc g.pc = .ok (.invokestatic index, 3)) (hf : cells + mc ≤ R.cells ∧ slots + ms ≤ R.slots) :
    va_Run p l e R s m args below meth c H locs cells slots mc ms g rest (Qc As.toArray) (free) := by
  obtain ⟨⟨hrc, hrs, hfr, hlo, hws, hcw⟩, hcode, hini, hy, hlen, hl, hstt⟩ := cw
  have hK : Back l R p e below s args y 3 8 (PreOf R mc ms Pc) (PostOf Qc mc ms free) := va_backW (hh := hh) (bytes := bytes) (maxL := maxL) (ret := ret) hM hp.1 hrc hrs hfr hlo hws hcw (fun a' U hW => word_at hW (Or.inl (by first | rfl | simp [Cond.onTables, Cond.keeps, Cond.steady])) hini)
  obtain ⟨hx, hb, hml, ho, -⟩ := S
  intro T hT X
  obtain ⟨v, vm₁, ⟨U', l2, c2, s2⟩, hW₁, X', ⟨g', mk, t, L, e1, e2, hq, h1, hL, h2, h3⟩, st⟩ := vx_callSW X hx (hh := hh) (bytes := bytes) (maxL := maxL) (ret := ret) ho hl hstt hini hcode hy hK hg (hsize.trans hml.symm) (argsL := As) (rest := rest) (fun sig h => hn.trans (hlen sig h)) hstack hW (by rw [hb]; exact hdg)
    (fun vm₁ hW₁ => ⟨hf.1, hf.2, hp.2 (T.setVm vm₁) hT hW₁⟩)
  dsimp only [Pt.U, Pt.locs, Pt.cells, Pt.slots] at X' e1 e2 h1 h2 h3 st
  subst h1; subst h2; subst h3
  exact ⟨v, (T.setVm vm₁).calling g' mk As.toArray, t, U', L, hT, X', hL, e1, e2, hq, st⟩
/-- a thing of a world lies in the heap -/
theorem vx_lt {D : va_G} {cl : List vw_C} {ws : va_W} {H1 : Heap} (h : va_P D cl ws H1) {k : Nat} {q : Nat × va_E} (hk : ws[k]? = some q) : q.1 < H1.size := (h k q hk).lt
end VXS
/-! ===== END ===== -/
/-! ===== BEGIN methods with a table of their own: called by a name, returning or throwing ===== -/
section VXH
/-! vx_backW, vx_callVX, vx_callSX, vx_callVW, vx_runVW, vx_runVX, vx_runSX, vx_ofWH follow the same proofs as their sisters above (Free/Laws.lean, Shelf42/LK1.lean); vx_outP calls Shelf42/NT130.lean (outThrough). -/
section
variable {l : Launch} {R : Room} {p : Program} {e : Env} {below : List Frame} {s : State} {sargs : Array Value} {y : MethodName} {len W9 : Nat}
theorem vx_backW {ws : List Cond} {rm : Room} {Pc : Array Value → State → Prop} {Qc : Array Value → State → Outcome → State → Prop} {XC : String → State → State → Prop} {mc ms : Nat} {free : Addr → Prop} {bytes : ByteArray} {maxL : Nat} {ret : Option FieldType} {hh : List (Nat × Nat × Nat × Nat)}
    (hM : vx_Met l y ws rm Pc Qc XC mc ms free) (hblind : FrameBlind Pc) (hrc : rm.cells = mc) (hrs : rm.slots = ms)
    (hframes : rm.frames + 1 ≤ R.frames) (hlocals : W9 + (maxL + 11) + rm.locals ≤ R.locals)
    (hws : ∀ w ∈ ws, ∀ a' U, s.WarmedH U.vm → w.before a' U = true) (hcode : Cond.codeWith y bytes maxL ret hh ∈ ws) (hinit : ∀ a' U, s.WarmedH U.vm → (Cond.initialized y.cls).before a' U = true) :
    vx_Back l R p e below s sargs y len W9 (PreOf R mc ms Pc) (PostOf Qc mc ms free) (vx_Post XC mc ms free) := by
  intro m meth c A g ig mk a X hg hsize hdg hW hn hp
  have h1 : (headSpec ws rm).pre.before a A.U = true := atoms_intro fun w hw => hws w hw _ _ X.warmed
  have h2 : (Cond.codeWith y bytes maxL ret hh).before a A.U = true := hws _ hcode _ _ X.warmed
  have h3 : (Cond.initialized y.cls).before a A.U = true := hinit _ _ X.warmed
  have h4 : A.cells + (headSpec ws rm).room.cells ≤ R.cells := by rw [show (headSpec ws rm).room.cells = mc from hrc]; exact hp.1
  have h5 : A.slots + (headSpec ws rm).room.slots ≤ R.slots := by rw [show (headSpec ws rm).room.slots = ms from hrs]; exact hp.2.1
  have hPc : Pc a (A.U.calling g mk a) := hblind _ _ _ _ hp.2.2
  obtain ⟨U, Ls, c0, s0⟩ := A
  dsimp only [Pt.U, Pt.locs, Pt.cells, Pt.slots] at h1 h2 h3 h4 h5 X hn hPc ⊢
  obtain ⟨m9, methY, cY, hn9, hmY, hcY, -, hlY, -⟩ := Cond.codeWith_spec h2
  cases Option.some.inj (hn9.symm.trans hn)
  obtain ⟨kY, hkY, -⟩ := className_of_methodNamed hn
  have hinitY : kY.init = .initialized := Cond.initialized_spec (findClass_of_methodNamed hn) hkY h3
  have h : At U g.method c below := by rw [hg]; exact X.here
  have hlocals9 : W9 + (maxL + 11) + (headSpec ws rm).room.locals ≤ R.locals := hlocals
  have happ : (headSpec ws rm).appliesLoose y e.platform (U.calling g mk a) = true :=
    Spec.appliesLoose_calling (g := g) h hdg hn hkY hinitY
      (X.room_calling (g := g) (R' := (headSpec ws rm).room) hsize hmY hcY hframes (by rw [hlY]; omega) h4 h5) h1
  obtain ⟨mid, hmid⟩ := h.above
  have hfr : (U.setTop g).frames = (.java g :: mid) ++ below := by rw [State.frames_setTop' g h.top, hmid]; rfl
  obtain ⟨o, s₂, hsteps, -, hend, hq⟩ := Steps.callFree hM p X.admits X.cas X.clock (acts := []) hfr happ hPc trivial
  have hq' : vx_Q Qc XC mc ms free a (U.calling g mk a) o s₂ := hq
  rw [State.frames_setTop' g h.top] at hend
  obtain ⟨g₀, hg0⟩ := Option.isSome_iff_exists.mp h.top
  obtain ⟨r, hr⟩ := State.topJava?_eq_some.mp hg0
  have hr' : (({ U with heap := s₂.heap, slotsUsed := s₂.slotsUsed } : State).setVm s₂.vm).frames = .java g₀ :: r := hr
  rcases hq' with ⟨hqc, L, hfe, hL⟩ | ⟨q, rfl, E, ce, L, hx, hce, hcv, hcl, hW₂, hsm, hL⟩
  · obtain ⟨⟨v, rfl⟩, hW₂, e2, q2, q3, q4, q5, q6⟩ := id hfe
    have e3 : s₂ = ({ (U.calling g mk a).setFrames s₂.frames with heap := s₂.heap, slotsUsed := s₂.slotsUsed } : State).setVm s₂.vm := by
      have : s₂ = ({ s₂ with vm := (U.calling g mk a).vm } : State).setVm s₂.vm := rfl
      rw [e2] at this
      exact this
    obtain ⟨c₂, i₂, len₂, hc₂, hd₂, hf₂⟩ := hend
    have hW' : U.WarmedH s₂.vm := hW₂
    have hcc : c₂ = c := by
      have h1 : s₂.code? g.method = U.code? g.method := by
        rw [State.code?_eq, State.code?_eq, hW'.alike.method?]
      exact Option.some.inj (hc₂.symm.trans (h1.trans h.code))
    subst hcc
    have hlen : len₂ = len := by rw [hdg] at hd₂; cases hd₂; rfl
    subst hlen
    have hs₂ : s₂ = (({ U with heap := s₂.heap, slotsUsed := s₂.slotsUsed } : State).setVm s₂.vm).setTop { g with pc := g.pc + len₂, stack := v.toList ++ g.stack } := by
      refine e3.trans ?_
      rw [hf₂, State.calling_eq h.top, State.setFrames_setFrames, State.setTop_of_frames _ hr', hr]
      rfl
    have hsame : U.sameButNew ({ U with heap := s₂.heap, slotsUsed := s₂.slotsUsed } : State) L mc ms := by
      refine ⟨?_, q2, q3, q4, q5, q6⟩
      obtain ⟨t, ht, -⟩ := State.frames_cons hr
      show ({ U with heap := s₂.heap, slotsUsed := s₂.slotsUsed } : State) = { U.setFrames U.frames with heap := s₂.heap, slotsUsed := s₂.slotsUsed }
      rw [State.setFrames_self ht]
    subst hg
    refine Or.inl ⟨v, ⟨(({ U with heap := s₂.heap, slotsUsed := s₂.slotsUsed } : State).setVm s₂.vm), Ls ++ L, c0 + mc, s0 + ms⟩,
      ⟨X.admits, X.cas, X.clock, X.frames, X.room, X.hears, X.method, X.code, (X.here.setHeapUsed s₂.heap s₂.slotsUsed).setVm hW'.alike, X.tail, State.WarmedH.trans X.warmed hW', X.limits, X.bytes, X.same.trans (hsame.setVm s.vm)⟩,
      ⟨g, mk, s₂, L, rfl, rfl, hqc, rfl, hL, rfl, rfl⟩, ?_⟩
    show Steps p.tables e below _ ((({ U with heap := s₂.heap, slotsUsed := s₂.slotsUsed } : State).setVm s₂.vm).setTop { g with pc := g.pc + len₂, stack := v.toList ++ g.stack })
    rw [← hs₂]
    exact hsteps
  · obtain ⟨e2, q2, q3, q4, q5, q6⟩ := id hsm
    have e3 : s₂ = ({ (U.calling g mk a).setFrames s₂.frames with heap := s₂.heap, slotsUsed := s₂.slotsUsed } : State).setVm s₂.vm := by
      have : s₂ = ({ s₂ with vm := (U.calling g mk a).vm } : State).setVm s₂.vm := rfl
      rw [e2] at this
      exact this
    have hf₂ : s₂.frames = .throwing q :: .java g :: U.frames.tail := hend
    have hW' : U.WarmedH s₂.vm := hW₂
    have hs₂ : s₂ = ((({ U with heap := s₂.heap, slotsUsed := s₂.slotsUsed } : State).setVm s₂.vm).setTop g).pushFrame (.throwing q) := by
      refine e3.trans ?_
      rw [hf₂, State.calling_eq h.top, State.setFrames_setFrames, State.pushFrame, State.frames_setTop _ hr', State.setTop_of_frames _ hr', State.setFrames_setFrames, hr]
      rfl
    have hsame : U.sameButNew ({ U with heap := s₂.heap, slotsUsed := s₂.slotsUsed } : State) L mc ms := by
      refine ⟨?_, q2, q3, q4, q5, q6⟩
      obtain ⟨t, ht, -⟩ := State.frames_cons hr
      show ({ U with heap := s₂.heap, slotsUsed := s₂.slotsUsed } : State) = { U.setFrames U.frames with heap := s₂.heap, slotsUsed := s₂.slotsUsed }
      rw [State.setFrames_self ht]
    subst hg
    refine Or.inr ⟨q, ⟨(({ U with heap := s₂.heap, slotsUsed := s₂.slotsUsed } : State).setVm s₂.vm), Ls ++ L, c0 + mc, s0 + ms⟩,
      ⟨X.admits, X.cas, X.clock, X.frames, X.room, X.hears, X.method, X.code, (X.here.setHeapUsed s₂.heap s₂.slotsUsed).setVm hW'.alike, X.tail, State.WarmedH.trans X.warmed hW', X.limits, X.bytes, X.same.trans (hsame.setVm s.vm)⟩,
      ⟨g, mk, s₂, L, E, ce, rfl, rfl, hx, hce, hcv, hcl, rfl, hL, rfl, rfl⟩, ?_⟩
    show Steps p.tables e below _ (((({ U with heap := s₂.heap, slotsUsed := s₂.slotsUsed } : State).setVm s₂.vm).setTop g).pushFrame (.throwing q))
    rw [← hs₂]
    exact hsteps
end
variable {p : Program} {l : Launch} {e : Env} {R : Room} {s : State} {m : MethodId} {args : Array Value} {below : List Frame} {meth : Method} {c : Code} {T : State} {H : Heap} {locs : List Loc} {cells slots : Nat}
theorem vx_callVX (X : Stand p l e R s m args below meth c T locs cells slots) (hexec : p.tables.exec = Jvm.exec) {own C : String} {index : Nat} {y : MethodName} {bytes : ByteArray} {maxL : Nat} {ret : Option FieldType} {hh : List (Nat × Nat × Nat × Nat)}
    (hown : s.vm.findClass own = some m.cls) (hlink : (Cond.methodLink own index y).before args s = true) (hinst : (Cond.instanceMethod y).before args s = true) (hsel : (Cond.selects C y y).before args s = true)
    (hcode : (Cond.codeWith y bytes maxL ret hh).before args s = true) (hy : y.cls ≠ "java/lang/invoke/MethodHandle" ∧ y.cls ≠ "java/lang/invoke/VarHandle")
    {W9 : Nat} {Pre : Pt → Array Value → Prop} {Post : Pt → Array Value → Option Value → Pt → Prop} {PostX : Pt → Array Value → Addr → Pt → Prop} (hK : vx_Back l R p e below s args y 3 W9 Pre Post PostX)
    {b : Addr} {cellB : Cell} (hcell : T.heap[b]? = some cellB) (hobj : cellB.vm.isStatics = false) (hcls : s.vm.findClass C = some cellB.cls)
    {g : JFrame} (hg : g.method = m) (hsize : g.locals.size = c.maxLocals) {argsL rest : List Value} (hlen : ∀ sig, parseMethodDescriptor y.desc = some sig → argsL.length = sig.parameters.length)
    (hstack : g.stack = argsL.reverse ++ .ref b :: rest) (hW : 2 * g.monitorRoom + (rest.map fun v => v.category).sum ≤ W9) (hdg : decode c.code g.pc = .ok (.invokevirtual index, 3))
    (hpre : ∀ vm₁, s.WarmedH vm₁ → Pre ⟨T.setVm vm₁, locs, cells, slots⟩ (Value.ref b :: argsL).toArray) :
    (∃ (v : Option Value) (vm₁ : Vm) (B : Pt), s.WarmedH vm₁ ∧ Stand p l e R s m args below meth c B.U B.locs B.cells B.slots ∧ Post ⟨T.setVm vm₁, locs, cells, slots⟩ (Value.ref b :: argsL).toArray v B ∧
      ∀ target, Steps p.tables e below (B.U.setTop { g with pc := g.pc + 3, stack := v.toList ++ rest }) target → Steps p.tables e below (T.setTop g) target) ∨
    (∃ (q : Addr) (vm₁ : Vm) (B : Pt), s.WarmedH vm₁ ∧ Stand p l e R s m args below meth c B.U B.locs B.cells B.slots ∧ PostX ⟨T.setVm vm₁, locs, cells, slots⟩ (Value.ref b :: argsL).toArray q B ∧
      Steps p.tables e below (T.setTop g) ((B.U.setTop { g with stack := rest }).pushFrame (.throwing q))) := by
  obtain ⟨mk, methM, hnamed, hmethM, hstM, habM⟩ := Cond.instanceMethod_spec hinst
  obtain ⟨m8, methM', cM, hn8, hmethM', -, -, -, -, -, -, hsigM⟩ := Cond.codeWith_spec hcode
  cases Option.some.inj (hn8.symm.trans hnamed)
  cases hmethM.symm.trans hmethM'
  obtain ⟨c2, r2, m2, q1, q2, q3, q4, kP, hkP, hkPi⟩ := Cond.selects_spec hsel
  cases hcls.symm.trans q1
  cases (State.methodFound?_of_named hnamed hy).symm.trans q2
  cases hnamed.symm.trans q3
  have hselP : selectMethod e.platform s.vm cellB.cls mk = .method mk := by rw [Launch.admits_selectMethod X.admits]; exact q4
  obtain ⟨vm₁, X₁, hstep₁⟩ := X.invokevirtual hexec hown hlink hnamed hmethM hstM hkP hkPi hy (a := b) (cell := cellB) hcell
    (fun z h => by rw [h] at hobj; cases hobj) hselP hmethM habM hkP hkPi (g := g) hg (argsL := argsL) (rest := rest) (hlen _ hsigM) hstack hdg
  rcases hK m meth c ⟨T.setVm vm₁, locs, cells, slots⟩ { g with stack := rest } (.invokevirtual index) mk (Value.ref b :: argsL).toArray X₁ hg hsize hdg hW (X₁.named hnamed) (hpre vm₁ X₁.warmed) with ⟨v, B, X', hpost, hsteps⟩ | ⟨q, B, X', hpost, hsteps⟩
  · exact Or.inl ⟨v, vm₁, B, X₁.warmed, X', hpost, fun target h => hstep₁ _ fun acts => by rw [doInvoke_state]; exact hsteps.trans h⟩
  · exact Or.inr ⟨q, vm₁, B, X₁.warmed, X', hpost, hstep₁ _ fun acts => by rw [doInvoke_state]; exact hsteps⟩
theorem vx_callSX (X : Stand p l e R s m args below meth c T locs cells slots) (hexec : p.tables.exec = Jvm.exec) {own : String} {index : Nat} {y : MethodName} {bytes : ByteArray} {maxL : Nat} {ret : Option FieldType} {hh : List (Nat × Nat × Nat × Nat)}
    (hown : s.vm.findClass own = some m.cls) (hlink : (Cond.methodLink own index y).before args s = true) (hstat : (Cond.static y).before args s = true) (hinit : (Cond.initialized y.cls).before args s = true)
    (hcode : (Cond.codeWith y bytes maxL ret hh).before args s = true) (hy : y.cls ≠ "java/lang/invoke/MethodHandle" ∧ y.cls ≠ "java/lang/invoke/VarHandle")
    {W9 : Nat} {Pre : Pt → Array Value → Prop} {Post : Pt → Array Value → Option Value → Pt → Prop} {PostX : Pt → Array Value → Addr → Pt → Prop} (hK : vx_Back l R p e below s args y 3 W9 Pre Post PostX)
    {g : JFrame} (hg : g.method = m) (hsize : g.locals.size = c.maxLocals) {argsL rest : List Value} (hlen : ∀ sig, parseMethodDescriptor y.desc = some sig → argsL.length = sig.parameters.length)
    (hstack : g.stack = argsL.reverse ++ rest) (hW : 2 * g.monitorRoom + (rest.map fun v => v.category).sum ≤ W9) (hdg : decode c.code g.pc = .ok (.invokestatic index, 3))
    (hpre : ∀ vm₁, s.WarmedH vm₁ → Pre ⟨T.setVm vm₁, locs, cells, slots⟩ argsL.toArray) :
    (∃ (v : Option Value) (vm₁ : Vm) (B : Pt), s.WarmedH vm₁ ∧ Stand p l e R s m args below meth c B.U B.locs B.cells B.slots ∧ Post ⟨T.setVm vm₁, locs, cells, slots⟩ argsL.toArray v B ∧
      ∀ target, Steps p.tables e below (B.U.setTop { g with pc := g.pc + 3, stack := v.toList ++ rest }) target → Steps p.tables e below (T.setTop g) target) ∨
    (∃ (q : Addr) (vm₁ : Vm) (B : Pt), s.WarmedH vm₁ ∧ Stand p l e R s m args below meth c B.U B.locs B.cells B.slots ∧ PostX ⟨T.setVm vm₁, locs, cells, slots⟩ argsL.toArray q B ∧
      Steps p.tables e below (T.setTop g) ((B.U.setTop { g with stack := rest }).pushFrame (.throwing q))) := by
  obtain ⟨mk, methM, cM, hnamed, hmethM, -, -, -, -, -, -, hsigM⟩ := Cond.codeWith_spec hcode
  have hstatic : methM.isStatic = true := Cond.static_spec hnamed hmethM hstat
  obtain ⟨kP, hkP, -⟩ := className_of_methodNamed hnamed
  have hinitP : kP.init = .initialized := Cond.initialized_spec (findClass_of_methodNamed hnamed) hkP hinit
  obtain ⟨vm₁, X₁, hstep₁⟩ := X.invokestatic hexec hown hlink hnamed hmethM hstatic hkP hinitP hy (g := g) hg (argsL := argsL) (rest := rest) (hlen _ hsigM) hstack hdg
  rcases hK m meth c ⟨T.setVm vm₁, locs, cells, slots⟩ { g with stack := rest } (.invokestatic index) mk argsL.toArray X₁ hg hsize hdg hW (X₁.named hnamed) (hpre vm₁ X₁.warmed) with ⟨v, B, X', hpost, hsteps⟩ | ⟨q, B, X', hpost, hsteps⟩
  · exact Or.inl ⟨v, vm₁, B, X₁.warmed, X', hpost, fun target h => hstep₁ _ fun acts => by rw [doInvoke_state]; exact hsteps.trans h⟩
  · exact Or.inr ⟨q, vm₁, B, X₁.warmed, X', hpost, hstep₁ _ fun acts => by rw [doInvoke_state]; exact hsteps⟩
theorem vx_callVW (X : Stand p l e R s m args below meth c T locs cells slots) (hexec : p.tables.exec = Jvm.exec) {own C : String} {index : Nat} {y : MethodName} {bytes : ByteArray} {maxL : Nat} {ret : Option FieldType} {hh : List (Nat × Nat × Nat × Nat)}
    (hown : s.vm.findClass own = some m.cls) (hlink : (Cond.methodLink own index y).before args s = true) (hinst : (Cond.instanceMethod y).before args s = true) (hsel : (Cond.selects C y y).before args s = true)
    (hcode : (Cond.codeWith y bytes maxL ret hh).before args s = true) (hy : y.cls ≠ "java/lang/invoke/MethodHandle" ∧ y.cls ≠ "java/lang/invoke/VarHandle")
    {W9 : Nat} {Pre : Pt → Array Value → Prop} {Post : Pt → Array Value → Option Value → Pt → Prop} (hK : Back l R p e below s args y 3 W9 Pre Post)
    {b : Addr} {cellB : Cell} (hcell : T.heap[b]? = some cellB) (hobj : cellB.vm.isStatics = false) (hcls : s.vm.findClass C = some cellB.cls)
    {g : JFrame} (hg : g.method = m) (hsize : g.locals.size = c.maxLocals) {argsL rest : List Value} (hlen : ∀ sig, parseMethodDescriptor y.desc = some sig → argsL.length = sig.parameters.length)
    (hstack : g.stack = argsL.reverse ++ .ref b :: rest) (hW : 2 * g.monitorRoom + (rest.map fun v => v.category).sum ≤ W9) (hdg : decode c.code g.pc = .ok (.invokevirtual index, 3))
    (hpre : ∀ vm₁, s.WarmedH vm₁ → Pre ⟨T.setVm vm₁, locs, cells, slots⟩ (Value.ref b :: argsL).toArray) :
    ∃ (v : Option Value) (vm₁ : Vm) (B : Pt), s.WarmedH vm₁ ∧ Stand p l e R s m args below meth c B.U B.locs B.cells B.slots ∧ Post ⟨T.setVm vm₁, locs, cells, slots⟩ (Value.ref b :: argsL).toArray v B ∧
      ∀ target, Steps p.tables e below (B.U.setTop { g with pc := g.pc + 3, stack := v.toList ++ rest }) target → Steps p.tables e below (T.setTop g) target := by
  obtain ⟨mk, methM, hnamed, hmethM, hstM, habM⟩ := Cond.instanceMethod_spec hinst
  obtain ⟨m8, methM', cM, hn8, hmethM', -, -, -, -, -, -, hsigM⟩ := Cond.codeWith_spec hcode
  cases Option.some.inj (hn8.symm.trans hnamed)
  cases hmethM.symm.trans hmethM'
  obtain ⟨c2, r2, m2, q1, q2, q3, q4, kP, hkP, hkPi⟩ := Cond.selects_spec hsel
  cases hcls.symm.trans q1
  cases (State.methodFound?_of_named hnamed hy).symm.trans q2
  cases hnamed.symm.trans q3
  have hselP : selectMethod e.platform s.vm cellB.cls mk = .method mk := by rw [Launch.admits_selectMethod X.admits]; exact q4
  obtain ⟨vm₁, X₁, hstep₁⟩ := X.invokevirtual hexec hown hlink hnamed hmethM hstM hkP hkPi hy (a := b) (cell := cellB) hcell
    (fun z h => by rw [h] at hobj; cases hobj) hselP hmethM habM hkP hkPi (g := g) hg (argsL := argsL) (rest := rest) (hlen _ hsigM) hstack hdg
  obtain ⟨v, B, X', hpost, hsteps⟩ := hK m meth c ⟨T.setVm vm₁, locs, cells, slots⟩ { g with stack := rest } (.invokevirtual index) mk (Value.ref b :: argsL).toArray X₁ hg hsize hdg hW (X₁.named hnamed) (hpre vm₁ X₁.warmed)
  exact ⟨v, vm₁, B, X₁.warmed, X', hpost, fun target h => hstep₁ _ fun acts => by rw [doInvoke_state]; exact hsteps.trans h⟩
abbrev vx_CVW (R : Room) (s : State) (args : Array Value) (own C : String) (index : Nat) (y : MethodName) (bytes : ByteArray) (maxL : Nat) (ret : Option FieldType) (hh : List (Nat × Nat × Nat × Nat)) (ws : List Cond) (rm : Room) (mc ms n : Nat) : Prop :=
  (rm.cells = mc ∧ rm.slots = ms ∧ rm.frames + 1 ≤ R.frames ∧ 8 + (maxL + 11) + rm.locals ≤ R.locals ∧ (∀ w ∈ ws, ∀ (a' : Array Value) (U : State), s.WarmedH U.vm → w.before a' U = true) ∧ Cond.codeWith y bytes maxL ret hh ∈ ws) ∧
  (Cond.codeWith y bytes maxL ret hh).before args s = true ∧ (Cond.initialized y.cls).before args s = true ∧ (y.cls ≠ "java/lang/invoke/MethodHandle" ∧ y.cls ≠ "java/lang/invoke/VarHandle") ∧
  (∀ sig, parseMethodDescriptor y.desc = some sig → n = sig.parameters.length) ∧ (Cond.methodLink own index y).before args s = true ∧ (Cond.instanceMethod y).before args s = true ∧ (Cond.selects C y y).before args s = true
theorem vx_cwVW {own C : String} {index maxL mc ms : Nat} {y : MethodName} {bytes : ByteArray} {ret : Option FieldType} {hh : List (Nat × Nat × Nat × Nat)} {Ts ws ws' : List Cond} {rm : Room} (n : Nat) (ht : ∀ w ∈ Ts, w.before args s = true) (hT : GoodIn Ts (wsV own index C y ws)) (hw : ws = Cond.codeWith y bytes maxL ret hh :: ws') (hrc : rm.cells = mc) (hrs : rm.slots = ms)
    (hd : y.cls = C ∧ y.cls ≠ "java/lang/invoke/MethodHandle" ∧ y.cls ≠ "java/lang/invoke/VarHandle" ∧ (parseMethodDescriptor y.desc).map (fun d => d.parameters.length) = some n) (hR : rm.frames + 1 ≤ R.frames ∧ 8 + (maxL + 11) + rm.locals ≤ R.locals) :
    vx_CVW R s args own C index y bytes maxL ret hh ws rm mc ms n := by
  obtain ⟨hC, hd⟩ := hd
  subst hC
  have ok : ∀ w ∈ wsV own index y.cls y ws, w.before args s = true := fun w h => ht w (hT w h).1
  have hG : GoodIn Ts ws := fun w h => hT w (by unfold wsV; exact List.mem_append_right _ h)
  have hc : Cond.codeWith y bytes maxL ret hh ∈ ws := by rw [hw]; exact List.mem_cons_self
  refine ⟨⟨hrc, hrs, hR.1, hR.2, pay_in ht hG, hc⟩, ht _ (hG _ hc).1, ok _ (by simp [wsV]), ⟨hd.1, hd.2.1⟩, fun sig h => ?_, ok _ (by simp [wsV]), ok _ (by simp [wsV]), ok _ (by simp [wsV])⟩
  have h2 := hd.2.2
  rw [h] at h2
  exact (Option.some.inj h2).symm
theorem vx_runVW {y : MethodName} {bytes cc : ByteArray} {maxL nL mc ms n index : Nat} {ret : Option FieldType} {hh : List (Nat × Nat × Nat × Nat)} {ws : List Cond} {rm : Room} {Pc : Array Value → State → Prop} {Qc : Array Value → State → Outcome → State → Prop} {free : Addr → Prop} {Ts : List Cond} {own C : String} {b : Addr} {As rest : List Value} {g : JFrame}
    (S : CallFix p m c cc nL s args Ts own) (hM : Met l y ws rm Pc Qc mc ms free) (cw : vx_CVW R s args own C index y bytes maxL ret hh ws rm mc ms n) (hp : PreV s H C b Pc As)
    (hg : g.method = m) (hn : As.length = n) (hsize : g.locals.size = nL) (hstack : g.stack = As.reverse ++ .ref b :: rest) (hW : 2 * g.monitorRoom + (rest.map fun v => v.category).sum ≤ 8) (hdg : decode cc g.pc = .ok (.invokevirtual index, 3)) (hf : cells + mc ≤ R.cells ∧ slots + ms ≤ R.slots) :
    va_Run p l e R s m args below meth c H locs cells slots mc ms g rest (Qc (Value.ref b :: As).toArray) free := by
  obtain ⟨⟨hrc, hrs, hfr, hlo, hws, hcw⟩, hcode, hini, hy, hlen, hl, hin, hse⟩ := cw
  have hK : Back l R p e below s args y 3 8 (PreOf R mc ms Pc) (PostOf Qc mc ms free) := va_backW (hh := hh) (bytes := bytes) (maxL := maxL) (ret := ret) hM hp.1 hrc hrs hfr hlo hws hcw (fun a' U hW => word_at hW (Or.inl (by first | rfl | simp [Cond.onTables, Cond.keeps, Cond.steady])) hini)
  obtain ⟨hx, hb, hml, ho, -⟩ := S
  obtain ⟨-, ⟨cellB, hcB, hoB, hclB⟩, hPc⟩ := hp
  intro T hT X
  obtain ⟨v, vm₁, ⟨U', l2, c2, s2⟩, hW₁, X', ⟨g', mk, t, L, e1, e2, hq, h1, hL, h2, h3⟩, st⟩ := vx_callVW X hx (C := C) (hh := hh) (bytes := bytes) (maxL := maxL) (ret := ret) ho hl hin hse hcode hy hK (by rw [hT]; exact hcB) hoB hclB hg (hsize.trans hml.symm) (argsL := As) (rest := rest) (fun sig h => hn.trans (hlen sig h)) hstack hW (by rw [hb]; exact hdg)
    (fun vm₁ hW₁ => ⟨hf.1, hf.2, hPc (T.setVm vm₁) hT hW₁⟩)
  dsimp only [Pt.U, Pt.locs, Pt.cells, Pt.slots] at X' e1 e2 h1 h2 h3 st
  subst h1; subst h2; subst h3
  exact ⟨v, (T.setVm vm₁).calling g' mk (Value.ref b :: As).toArray, t, U', L, hT, X', hL, e1, e2, hq, st⟩
section
variable {y : MethodName} {bytes cc : ByteArray} {maxL nL mc ms n index : Nat} {ret : Option FieldType} {ws : List Cond} {rm : Room} {Pc : Array Value → State → Prop} {Qc : Array Value → State → Outcome → State → Prop} {XC : String → State → State → Prop} {free : Addr → Prop} {Ts : List Cond} {own C : String} {b : Addr} {As rest : List Value} {g : JFrame}
theorem vx_runVX {hh : List (Nat × Nat × Nat × Nat)} (S : CallFix p m c cc nL s args Ts own) (hM : vx_Met l y ws rm Pc Qc XC mc ms free) (cw : vx_CVW R s args own C index y bytes maxL ret hh ws rm mc ms n) (hp : PreV s H C b Pc As)
    (hg : g.method = m) (hn : As.length = n) (hsize : g.locals.size = nL) (hstack : g.stack = As.reverse ++ .ref b :: rest) (hW : 2 * g.monitorRoom + (rest.map fun v => v.category).sum ≤ 8) (hdg : decode cc g.pc = .ok (.invokevirtual index, 3)) (hf : cells + mc ≤ R.cells ∧ slots + ms ≤ R.slots) :
    vx_Run p l e R s m args below meth c H locs cells slots mc ms g rest (Qc (Value.ref b :: As).toArray) XC free := by
  obtain ⟨⟨hrc, hrs, hfr, hlo, hws, hcw⟩, hcode, hini, hy, hlen, hl, hin, hse⟩ := cw
  have hK : vx_Back l R p e below s args y 3 8 (PreOf R mc ms Pc) (PostOf Qc mc ms free) (vx_Post XC mc ms free) := vx_backW (hh := hh) (bytes := bytes) (maxL := maxL) (ret := ret) hM hp.1 hrc hrs hfr hlo hws hcw (fun a' U hW => word_at hW (Or.inl (by first | rfl | simp [Cond.onTables, Cond.keeps, Cond.steady])) hini)
  obtain ⟨hx, hb, hml, ho, -⟩ := S
  obtain ⟨-, ⟨cellB, hcB, hoB, hclB⟩, hPc⟩ := hp
  intro T hT X
  rcases vx_callVX X hx (C := C) (hh := hh) (bytes := bytes) (maxL := maxL) (ret := ret) ho hl hin hse hcode hy hK (by rw [hT]; exact hcB) hoB hclB hg (hsize.trans hml.symm) (argsL := As) (rest := rest) (fun sig h => hn.trans (hlen sig h)) hstack hW (by rw [hb]; exact hdg)
    (fun vm₁ hW₁ => ⟨hf.1, hf.2, hPc (T.setVm vm₁) hT hW₁⟩) with ⟨v, vm₁, ⟨U', l2, c2, s2⟩, hW₁, X', ⟨g', mk, t, L, e1, e2, hq, h1, hL, h2, h3⟩, st⟩ | ⟨q, vm₁, ⟨U', l2, c2, s2⟩, hW₁, X', ⟨g', mk, t, L, E, ce, e1, e2, hq, hce, hcv, hcl, h1, hL, h2, h3⟩, st⟩
  · dsimp only [Pt.U, Pt.locs, Pt.cells, Pt.slots] at X' e1 e2 h1 h2 h3 st
    subst h1; subst h2; subst h3
    exact Or.inl ⟨v, (T.setVm vm₁).calling g' mk (Value.ref b :: As).toArray, t, U', L, hT, X', hL, e1, e2, hq, st⟩
  · dsimp only [Pt.U, Pt.locs, Pt.cells, Pt.slots] at X' e1 e2 h1 h2 h3 st hcl
    subst h1; subst h2; subst h3
    exact Or.inr ⟨q, (T.setVm vm₁).calling g' mk (Value.ref b :: As).toArray, t, U', L, E, ce, hT, X', hL, e1, e2, hq, hce, hcv, vx_cls hW₁ hcl, st⟩
theorem vx_runSX {hh : List (Nat × Nat × Nat × Nat)} (S : CallFix p m c cc nL s args Ts own) (hM : vx_Met l y ws rm Pc Qc XC mc ms free) (cw : vx_CSW R s args own index y bytes maxL ret hh ws rm mc ms n) (hp : PreS s H Pc As)
    (hg : g.method = m) (hn : As.length = n) (hsize : g.locals.size = nL) (hstack : g.stack = As.reverse ++ rest) (hW : 2 * g.monitorRoom + (rest.map fun v => v.category).sum ≤ 8) (hdg : decode cc g.pc = .ok (.invokestatic index, 3)) (hf : cells + mc ≤ R.cells ∧ slots + ms ≤ R.slots) :
    vx_Run p l e R s m args below meth c H locs cells slots mc ms g rest (Qc As.toArray) XC free := by
  obtain ⟨⟨hrc, hrs, hfr, hlo, hws, hcw⟩, hcode, hini, hy, hlen, hl, hstt⟩ := cw
  have hK : vx_Back l R p e below s args y 3 8 (PreOf R mc ms Pc) (PostOf Qc mc ms free) (vx_Post XC mc ms free) := vx_backW (hh := hh) (bytes := bytes) (maxL := maxL) (ret := ret) hM hp.1 hrc hrs hfr hlo hws hcw (fun a' U hW => word_at hW (Or.inl (by first | rfl | simp [Cond.onTables, Cond.keeps, Cond.steady])) hini)
  obtain ⟨hx, hb, hml, ho, -⟩ := S
  intro T hT X
  rcases vx_callSX X hx (hh := hh) (bytes := bytes) (maxL := maxL) (ret := ret) ho hl hstt hini hcode hy hK hg (hsize.trans hml.symm) (argsL := As) (rest := rest) (fun sig h => hn.trans (hlen sig h)) hstack hW (by rw [hb]; exact hdg)
    (fun vm₁ hW₁ => ⟨hf.1, hf.2, hp.2 (T.setVm vm₁) hT hW₁⟩) with ⟨v, vm₁, ⟨U', l2, c2, s2⟩, hW₁, X', ⟨g', mk, t, L, e1, e2, hq, h1, hL, h2, h3⟩, st⟩ | ⟨q, vm₁, ⟨U', l2, c2, s2⟩, hW₁, X', ⟨g', mk, t, L, E, ce, e1, e2, hq, hce, hcv, hcl, h1, hL, h2, h3⟩, st⟩
  · dsimp only [Pt.U, Pt.locs, Pt.cells, Pt.slots] at X' e1 e2 h1 h2 h3 st
    subst h1; subst h2; subst h3
    exact Or.inl ⟨v, (T.setVm vm₁).calling g' mk As.toArray, t, U', L, hT, X', hL, e1, e2, hq, st⟩
  · dsimp only [Pt.U, Pt.locs, Pt.cells, Pt.slots] at X' e1 e2 h1 h2 h3 st hcl
    subst h1; subst h2; subst h3
    exact Or.inr ⟨q, (T.setVm vm₁).calling g' mk As.toArray, t, U', L, E, ce, hT, X', hL, e1, e2, hq, hce, hcv, vx_cls hW₁ hcl, st⟩
end
end VXH
theorem vx_ofWH {l : Launch} {y : MethodName} {ws ws' : List Cond} {rm : Room} {Pc : Array Value → State → Prop} {Qc : Array Value → State → Outcome → State → Prop} {XC : String → State → State → Prop} {mc ms : Nat} {free : Addr → Prop} {cc : ByteArray} {maxL : Nat} {ret : Option FieldType} {hh : List (Nat × Nat × Nat × Nat)}
    (hy : plainName y.cls = true) (hw : ws = Cond.codeWith y cc maxL ret hh :: ws')
    (body : ∀ p e s m args below meth c s₁, BodyLoose p l y (headSpec ws rm) cc maxL ret e s m args below meth c s₁ → c.maxLocals = maxL → Pc args s →
      W p l e (headSpec ws rm).room s m args below meth c s.heap [] 0 0 (vx_MQ below Qc XC args s mc ms free) (entryFrame m args maxL)) : vx_Met l y ws rm Pc Qc XC mc ms free := by
  refine MetFree.of_bodyS (code := cc) (maxLocals := maxL) (ret := ret) hy ?_ ?_
  · intro args s m h hn
    obtain ⟨m9, meth, c, hn9, h1, h2, h3, h4, -, h5, h6, -⟩ := Cond.codeWith_spec (atoms_spec (ws := ws) h _ (by rw [hw]; exact List.mem_cons_self))
    cases hn.symm.trans hn9
    exact ⟨meth, c, h1, h2, h3, h4, h5, h6⟩
  · intro p e s m args below meth c s₁ B hml hP _
    have hh0 : s₁.heap = s.heap := by rw [B.state]; rfl
    obtain ⟨t, a1, o, b1, b2, b3⟩ := body p e s m args below meth c s₁ B hml hP s₁ hh0 (Stand.of_body B)
    exact ⟨t, o, a1, b1, b2, b3⟩
/-! ===== END ===== -/
end
section
-- ===== PART A: goes FIRST, ahead of the names: the tables' words, and 'selects' of the private methods out of them =====
/-- a private method of a class that the tables say can be made, by its rows of tables_1 -/
def lw_okq (q : MethodName × Nat) : Prop := (q.1.cls ≠ "java/lang/invoke/MethodHandle" ∧ q.1.cls ≠ "java/lang/invoke/VarHandle") ∧ Cond.instantiable q.1.cls q.2 ∈ tables_1 ∧ Cond.privateMethod q.1 ∈ tables_1 ∧ Cond.instanceMethod q.1 ∈ tables_1
theorem lw_p0 : lw_okq (⟨"GripEstates", "forgetActs", "()V"⟩, 13) := ⟨⟨by decide +kernel, by decide +kernel⟩, List.mem_of_getElem? (i := 31) (by decide +kernel), List.mem_of_getElem? (i := 475) (by decide +kernel), List.mem_of_getElem? (i := 476) (by decide +kernel)⟩
theorem lw_p1 : lw_okq (⟨"GripEstates$Reader", "keep", "(LGripEstates$Tape;II)V"⟩, 6) := ⟨⟨by decide +kernel, by decide +kernel⟩, List.mem_of_getElem? (i := 94) (by decide +kernel), List.mem_of_getElem? (i := 526) (by decide +kernel), List.mem_of_getElem? (i := 527) (by decide +kernel)⟩
theorem lw_p2 : lw_okq (⟨"GripEstates$Token", "isAt", "(LGripEstates$Tape;II)Z"⟩, 5) := ⟨⟨by decide +kernel, by decide +kernel⟩, List.mem_of_getElem? (i := 539) (by decide +kernel), List.mem_of_getElem? (i := 537) (by decide +kernel), List.mem_of_getElem? (i := 538) (by decide +kernel)⟩
theorem lw_p3 : lw_okq (⟨"GripEstates$ValleyReader", "readLine", "(LGripEstates$Valley;)Z"⟩, 1) := ⟨⟨by decide +kernel, by decide +kernel⟩, List.mem_of_getElem? (i := 123) (by decide +kernel), List.mem_of_getElem? (i := 603) (by decide +kernel), List.mem_of_getElem? (i := 604) (by decide +kernel)⟩
theorem lw_p4 : lw_okq (⟨"GripEstates$ValleyReader", "readPerson", "(LGripEstates$Valley;)Z"⟩, 1) := ⟨⟨by decide +kernel, by decide +kernel⟩, List.mem_of_getElem? (i := 123) (by decide +kernel), List.mem_of_getElem? (i := 609) (by decide +kernel), List.mem_of_getElem? (i := 610) (by decide +kernel)⟩
theorem lw_p5 : lw_okq (⟨"GripEstates$ValleyReader", "takeLiving", "(LGripEstates$Valley;)Z"⟩, 1) := ⟨⟨by decide +kernel, by decide +kernel⟩, List.mem_of_getElem? (i := 123) (by decide +kernel), List.mem_of_getElem? (i := 632) (by decide +kernel), List.mem_of_getElem? (i := 633) (by decide +kernel)⟩
theorem lw_p6 : lw_okq (⟨"GripEstates$ValleyReader", "readHeir", "(LGripEstates$Valley;)Z"⟩, 1) := ⟨⟨by decide +kernel, by decide +kernel⟩, List.mem_of_getElem? (i := 123) (by decide +kernel), List.mem_of_getElem? (i := 648) (by decide +kernel), List.mem_of_getElem? (i := 649) (by decide +kernel)⟩
theorem lw_p7 : lw_okq (⟨"GripEstates$ValleyReader", "readThing", "(LGripEstates$Valley;)Z"⟩, 1) := ⟨⟨by decide +kernel, by decide +kernel⟩, List.mem_of_getElem? (i := 123) (by decide +kernel), List.mem_of_getElem? (i := 654) (by decide +kernel), List.mem_of_getElem? (i := 655) (by decide +kernel)⟩
theorem lw_p8 : lw_okq (⟨"GripEstates$ValleyReader", "readPlace", "(LGripEstates$Valley;I)Z"⟩, 1) := ⟨⟨by decide +kernel, by decide +kernel⟩, List.mem_of_getElem? (i := 123) (by decide +kernel), List.mem_of_getElem? (i := 668) (by decide +kernel), List.mem_of_getElem? (i := 669) (by decide +kernel)⟩
theorem lw_p9 : lw_okq (⟨"GripEstates$ValleyReader", "readCrownThing", "(LGripEstates$Valley;)Z"⟩, 1) := ⟨⟨by decide +kernel, by decide +kernel⟩, List.mem_of_getElem? (i := 123) (by decide +kernel), List.mem_of_getElem? (i := 683) (by decide +kernel), List.mem_of_getElem? (i := 684) (by decide +kernel)⟩
theorem lw_p10 : lw_okq (⟨"GripEstates$ValleyReader", "readSetting", "(LGripEstates$Valley;LGripEstates$Token;)Z"⟩, 1) := ⟨⟨by decide +kernel, by decide +kernel⟩, List.mem_of_getElem? (i := 123) (by decide +kernel), List.mem_of_getElem? (i := 687) (by decide +kernel), List.mem_of_getElem? (i := 688) (by decide +kernel)⟩
theorem lw_p11 : lw_okq (⟨"java/lang/Throwable", "fillInStackTrace", "(I)Ljava/lang/Throwable;"⟩, 6) := ⟨⟨by decide +kernel, by decide +kernel⟩, List.mem_of_getElem? (i := 746) (by decide +kernel), List.mem_of_getElem? (i := 744) (by decide +kernel), List.mem_of_getElem? (i := 745) (by decide +kernel)⟩
theorem lw_p12 : lw_okq (⟨"GripEstates$LawReader", "readLine", "(I)Z"⟩, 7) := ⟨⟨by decide +kernel, by decide +kernel⟩, List.mem_of_getElem? (i := 133) (by decide +kernel), List.mem_of_getElem? (i := 800) (by decide +kernel), List.mem_of_getElem? (i := 801) (by decide +kernel)⟩
theorem lw_p13 : lw_okq (⟨"GripEstates$LawReader", "anyOf", "(I)Z"⟩, 7) := ⟨⟨by decide +kernel, by decide +kernel⟩, List.mem_of_getElem? (i := 133) (by decide +kernel), List.mem_of_getElem? (i := 820) (by decide +kernel), List.mem_of_getElem? (i := 821) (by decide +kernel)⟩
theorem lw_p14 : lw_okq (⟨"GripEstates$LawReader", "allOf", "(I)Z"⟩, 7) := ⟨⟨by decide +kernel, by decide +kernel⟩, List.mem_of_getElem? (i := 133) (by decide +kernel), List.mem_of_getElem? (i := 824) (by decide +kernel), List.mem_of_getElem? (i := 825) (by decide +kernel)⟩
theorem lw_p15 : lw_okq (⟨"GripEstates$LawReader", "atom", "(I)Z"⟩, 7) := ⟨⟨by decide +kernel, by decide +kernel⟩, List.mem_of_getElem? (i := 133) (by decide +kernel), List.mem_of_getElem? (i := 828) (by decide +kernel), List.mem_of_getElem? (i := 829) (by decide +kernel)⟩
def lw_privs_1 : List (MethodName × Nat) := [(⟨"GripEstates", "forgetActs", "()V"⟩, 13), (⟨"GripEstates$Reader", "keep", "(LGripEstates$Tape;II)V"⟩, 6), (⟨"GripEstates$Token", "isAt", "(LGripEstates$Tape;II)Z"⟩, 5), (⟨"GripEstates$ValleyReader", "readLine", "(LGripEstates$Valley;)Z"⟩, 1), (⟨"GripEstates$ValleyReader", "readPerson", "(LGripEstates$Valley;)Z"⟩, 1), (⟨"GripEstates$ValleyReader", "takeLiving", "(LGripEstates$Valley;)Z"⟩, 1), (⟨"GripEstates$ValleyReader", "readHeir", "(LGripEstates$Valley;)Z"⟩, 1), (⟨"GripEstates$ValleyReader", "readThing", "(LGripEstates$Valley;)Z"⟩, 1), (⟨"GripEstates$ValleyReader", "readPlace", "(LGripEstates$Valley;I)Z"⟩, 1), (⟨"GripEstates$ValleyReader", "readCrownThing", "(LGripEstates$Valley;)Z"⟩, 1), (⟨"GripEstates$ValleyReader", "readSetting", "(LGripEstates$Valley;LGripEstates$Token;)Z"⟩, 1), (⟨"java/lang/Throwable", "fillInStackTrace", "(I)Ljava/lang/Throwable;"⟩, 6), (⟨"GripEstates$LawReader", "readLine", "(I)Z"⟩, 7), (⟨"GripEstates$LawReader", "anyOf", "(I)Z"⟩, 7), (⟨"GripEstates$LawReader", "allOf", "(I)Z"⟩, 7), (⟨"GripEstates$LawReader", "atom", "(I)Z"⟩, 7)]
theorem lw_r1 : ∀ q ∈ lw_privs_1, lw_okq q := List.forall_mem_cons.mpr ⟨lw_p0, List.forall_mem_cons.mpr ⟨lw_p1, List.forall_mem_cons.mpr ⟨lw_p2, List.forall_mem_cons.mpr ⟨lw_p3, List.forall_mem_cons.mpr ⟨lw_p4, List.forall_mem_cons.mpr ⟨lw_p5, List.forall_mem_cons.mpr ⟨lw_p6, List.forall_mem_cons.mpr ⟨lw_p7, List.forall_mem_cons.mpr ⟨lw_p8, List.forall_mem_cons.mpr ⟨lw_p9, List.forall_mem_cons.mpr ⟨lw_p10, List.forall_mem_cons.mpr ⟨lw_p11, List.forall_mem_cons.mpr ⟨lw_p12, List.forall_mem_cons.mpr ⟨lw_p13, List.forall_mem_cons.mpr ⟨lw_p14, List.forall_mem_cons.mpr ⟨lw_p15, fun _ h => absurd h List.not_mem_nil⟩⟩⟩⟩⟩⟩⟩⟩⟩⟩⟩⟩⟩⟩⟩⟩
theorem lw_p16 : lw_okq (⟨"GripEstates$LawReader", "write", "(I)V"⟩, 7) := ⟨⟨by decide +kernel, by decide +kernel⟩, List.mem_of_getElem? (i := 133) (by decide +kernel), List.mem_of_getElem? (i := 838) (by decide +kernel), List.mem_of_getElem? (i := 839) (by decide +kernel)⟩
theorem lw_p17 : lw_okq (⟨"GripEstates$LawReader", "sum", "()Z"⟩, 7) := ⟨⟨by decide +kernel, by decide +kernel⟩, List.mem_of_getElem? (i := 133) (by decide +kernel), List.mem_of_getElem? (i := 846) (by decide +kernel), List.mem_of_getElem? (i := 847) (by decide +kernel)⟩
theorem lw_p18 : lw_okq (⟨"GripEstates", "needPerson", "(I)V"⟩, 13) := ⟨⟨by decide +kernel, by decide +kernel⟩, List.mem_of_getElem? (i := 31) (by decide +kernel), List.mem_of_getElem? (i := 891) (by decide +kernel), List.mem_of_getElem? (i := 892) (by decide +kernel)⟩
theorem lw_p19 : lw_okq (⟨"GripEstates$Law", "holds", "(LGripEstates$Valley;III)Z"⟩, 5) := ⟨⟨by decide +kernel, by decide +kernel⟩, List.mem_of_getElem? (i := 161) (by decide +kernel), List.mem_of_getElem? (i := 922) (by decide +kernel), List.mem_of_getElem? (i := 923) (by decide +kernel)⟩
theorem lw_p20 : lw_okq (⟨"GripEstates$Matches", "point", "(LGripEstates$Valley;I)V"⟩, 5) := ⟨⟨by decide +kernel, by decide +kernel⟩, List.mem_of_getElem? (i := 70) (by decide +kernel), List.mem_of_getElem? (i := 974) (by decide +kernel), List.mem_of_getElem? (i := 975) (by decide +kernel)⟩
theorem lw_p21 : lw_okq (⟨"GripEstates$Matches", "inRings", "(LGripEstates$Valley;I)I"⟩, 5) := ⟨⟨by decide +kernel, by decide +kernel⟩, List.mem_of_getElem? (i := 70) (by decide +kernel), List.mem_of_getElem? (i := 981) (by decide +kernel), List.mem_of_getElem? (i := 982) (by decide +kernel)⟩
theorem lw_p22 : lw_okq (⟨"GripEstates", "needThing", "(I)V"⟩, 13) := ⟨⟨by decide +kernel, by decide +kernel⟩, List.mem_of_getElem? (i := 31) (by decide +kernel), List.mem_of_getElem? (i := 1011) (by decide +kernel), List.mem_of_getElem? (i := 1012) (by decide +kernel)⟩
theorem lw_p23 : lw_okq (⟨"GripEstates", "remember", "()V"⟩, 13) := ⟨⟨by decide +kernel, by decide +kernel⟩, List.mem_of_getElem? (i := 31) (by decide +kernel), List.mem_of_getElem? (i := 1041) (by decide +kernel), List.mem_of_getElem? (i := 1042) (by decide +kernel)⟩
theorem lw_p24 : lw_okq (⟨"GripEstates$Valley", "letGo", "()V"⟩, 19) := ⟨⟨by decide +kernel, by decide +kernel⟩, List.mem_of_getElem? (i := 183) (by decide +kernel), List.mem_of_getElem? (i := 1050) (by decide +kernel), List.mem_of_getElem? (i := 1051) (by decide +kernel)⟩
theorem lw_p25 : lw_okq (⟨"GripEstates$Valley", "feel", "()V"⟩, 19) := ⟨⟨by decide +kernel, by decide +kernel⟩, List.mem_of_getElem? (i := 183) (by decide +kernel), List.mem_of_getElem? (i := 1061) (by decide +kernel), List.mem_of_getElem? (i := 1062) (by decide +kernel)⟩
theorem lw_p26 : lw_okq (⟨"GripEstates$Valley", "numbered", "(II)I"⟩, 19) := ⟨⟨by decide +kernel, by decide +kernel⟩, List.mem_of_getElem? (i := 183) (by decide +kernel), List.mem_of_getElem? (i := 1070) (by decide +kernel), List.mem_of_getElem? (i := 1071) (by decide +kernel)⟩
theorem lw_p27 : lw_okq (⟨"GripEstates$Valley", "wakeOrDie", "()V"⟩, 19) := ⟨⟨by decide +kernel, by decide +kernel⟩, List.mem_of_getElem? (i := 183) (by decide +kernel), List.mem_of_getElem? (i := 1075) (by decide +kernel), List.mem_of_getElem? (i := 1076) (by decide +kernel)⟩
theorem lw_p28 : lw_okq (⟨"GripEstates$Valley", "die", "(I)V"⟩, 19) := ⟨⟨by decide +kernel, by decide +kernel⟩, List.mem_of_getElem? (i := 183) (by decide +kernel), List.mem_of_getElem? (i := 1080) (by decide +kernel), List.mem_of_getElem? (i := 1081) (by decide +kernel)⟩
theorem lw_p29 : lw_okq (⟨"GripEstates$Matches", "readHands", "(LGripEstates$Valley;)V"⟩, 5) := ⟨⟨by decide +kernel, by decide +kernel⟩, List.mem_of_getElem? (i := 70) (by decide +kernel), List.mem_of_getElem? (i := 1202) (by decide +kernel), List.mem_of_getElem? (i := 1203) (by decide +kernel)⟩
theorem lw_p30 : lw_okq (⟨"GripEstates$Matches", "mostHeldBy", "(LGripEstates$Valley;II)I"⟩, 5) := ⟨⟨by decide +kernel, by decide +kernel⟩, List.mem_of_getElem? (i := 70) (by decide +kernel), List.mem_of_getElem? (i := 1207) (by decide +kernel), List.mem_of_getElem? (i := 1208) (by decide +kernel)⟩
theorem lw_p31 : lw_okq (⟨"GripEstates$Matches", "weakestHand", "(II)I"⟩, 5) := ⟨⟨by decide +kernel, by decide +kernel⟩, List.mem_of_getElem? (i := 70) (by decide +kernel), List.mem_of_getElem? (i := 1211) (by decide +kernel), List.mem_of_getElem? (i := 1212) (by decide +kernel)⟩
def lw_privs_2 : List (MethodName × Nat) := [(⟨"GripEstates$LawReader", "write", "(I)V"⟩, 7), (⟨"GripEstates$LawReader", "sum", "()Z"⟩, 7), (⟨"GripEstates", "needPerson", "(I)V"⟩, 13), (⟨"GripEstates$Law", "holds", "(LGripEstates$Valley;III)Z"⟩, 5), (⟨"GripEstates$Matches", "point", "(LGripEstates$Valley;I)V"⟩, 5), (⟨"GripEstates$Matches", "inRings", "(LGripEstates$Valley;I)I"⟩, 5), (⟨"GripEstates", "needThing", "(I)V"⟩, 13), (⟨"GripEstates", "remember", "()V"⟩, 13), (⟨"GripEstates$Valley", "letGo", "()V"⟩, 19), (⟨"GripEstates$Valley", "feel", "()V"⟩, 19), (⟨"GripEstates$Valley", "numbered", "(II)I"⟩, 19), (⟨"GripEstates$Valley", "wakeOrDie", "()V"⟩, 19), (⟨"GripEstates$Valley", "die", "(I)V"⟩, 19), (⟨"GripEstates$Matches", "readHands", "(LGripEstates$Valley;)V"⟩, 5), (⟨"GripEstates$Matches", "mostHeldBy", "(LGripEstates$Valley;II)I"⟩, 5), (⟨"GripEstates$Matches", "weakestHand", "(II)I"⟩, 5)]
theorem lw_r2 : ∀ q ∈ lw_privs_2, lw_okq q := List.forall_mem_cons.mpr ⟨lw_p16, List.forall_mem_cons.mpr ⟨lw_p17, List.forall_mem_cons.mpr ⟨lw_p18, List.forall_mem_cons.mpr ⟨lw_p19, List.forall_mem_cons.mpr ⟨lw_p20, List.forall_mem_cons.mpr ⟨lw_p21, List.forall_mem_cons.mpr ⟨lw_p22, List.forall_mem_cons.mpr ⟨lw_p23, List.forall_mem_cons.mpr ⟨lw_p24, List.forall_mem_cons.mpr ⟨lw_p25, List.forall_mem_cons.mpr ⟨lw_p26, List.forall_mem_cons.mpr ⟨lw_p27, List.forall_mem_cons.mpr ⟨lw_p28, List.forall_mem_cons.mpr ⟨lw_p29, List.forall_mem_cons.mpr ⟨lw_p30, List.forall_mem_cons.mpr ⟨lw_p31, fun _ h => absurd h List.not_mem_nil⟩⟩⟩⟩⟩⟩⟩⟩⟩⟩⟩⟩⟩⟩⟩⟩
theorem lw_p32 : lw_okq (⟨"GripEstates$Matches", "leastChoice", "(LGripEstates$Valley;IIII)I"⟩, 5) := ⟨⟨by decide +kernel, by decide +kernel⟩, List.mem_of_getElem? (i := 70) (by decide +kernel), List.mem_of_getElem? (i := 1219) (by decide +kernel), List.mem_of_getElem? (i := 1220) (by decide +kernel)⟩
theorem lw_p33 : lw_okq (⟨"GripEstates$Matches", "readPairs", "(LGripEstates$Valley;)V"⟩, 5) := ⟨⟨by decide +kernel, by decide +kernel⟩, List.mem_of_getElem? (i := 70) (by decide +kernel), List.mem_of_getElem? (i := 1332) (by decide +kernel), List.mem_of_getElem? (i := 1333) (by decide +kernel)⟩
theorem lw_p34 : lw_okq (⟨"GripEstates$Matches", "leastPartner", "(LGripEstates$Valley;II)I"⟩, 5) := ⟨⟨by decide +kernel, by decide +kernel⟩, List.mem_of_getElem? (i := 70) (by decide +kernel), List.mem_of_getElem? (i := 1347) (by decide +kernel), List.mem_of_getElem? (i := 1348) (by decide +kernel)⟩
theorem lw_p35 : lw_okq (⟨"GripEstatesModel", "readAll", "(Z)I"⟩, 25) := ⟨⟨by decide +kernel, by decide +kernel⟩, List.mem_of_getElem? (i := 1448) (by decide +kernel), List.mem_of_getElem? (i := 1559) (by decide +kernel), List.mem_of_getElem? (i := 1560) (by decide +kernel)⟩
theorem lw_p36 : lw_okq (⟨"GripEstatesModel", "uses", "()V"⟩, 25) := ⟨⟨by decide +kernel, by decide +kernel⟩, List.mem_of_getElem? (i := 1448) (by decide +kernel), List.mem_of_getElem? (i := 1563) (by decide +kernel), List.mem_of_getElem? (i := 1564) (by decide +kernel)⟩
theorem lw_p37 : lw_okq (⟨"GripEstatesModel", "blanks", "()V"⟩, 25) := ⟨⟨by decide +kernel, by decide +kernel⟩, List.mem_of_getElem? (i := 1448) (by decide +kernel), List.mem_of_getElem? (i := 1567) (by decide +kernel), List.mem_of_getElem? (i := 1568) (by decide +kernel)⟩
theorem lw_p38 : lw_okq (⟨"GripEstatesModel", "isAt", "(II)Z"⟩, 25) := ⟨⟨by decide +kernel, by decide +kernel⟩, List.mem_of_getElem? (i := 1448) (by decide +kernel), List.mem_of_getElem? (i := 1571) (by decide +kernel), List.mem_of_getElem? (i := 1572) (by decide +kernel)⟩
theorem lw_p39 : lw_okq (⟨"GripEstatesModel", "readLine", "(ZI)Z"⟩, 25) := ⟨⟨by decide +kernel, by decide +kernel⟩, List.mem_of_getElem? (i := 1448) (by decide +kernel), List.mem_of_getElem? (i := 1575) (by decide +kernel), List.mem_of_getElem? (i := 1576) (by decide +kernel)⟩
theorem lw_p40 : lw_okq (⟨"GripEstatesModel", "letters", "()V"⟩, 25) := ⟨⟨by decide +kernel, by decide +kernel⟩, List.mem_of_getElem? (i := 1448) (by decide +kernel), List.mem_of_getElem? (i := 1579) (by decide +kernel), List.mem_of_getElem? (i := 1580) (by decide +kernel)⟩
theorem lw_p41 : lw_okq (⟨"GripEstatesModel", "readValleyLine", "()Z"⟩, 25) := ⟨⟨by decide +kernel, by decide +kernel⟩, List.mem_of_getElem? (i := 1448) (by decide +kernel), List.mem_of_getElem? (i := 1583) (by decide +kernel), List.mem_of_getElem? (i := 1584) (by decide +kernel)⟩
theorem lw_p42 : lw_okq (⟨"GripEstatesModel", "isWord", "(Ljava/lang/String;)Z"⟩, 25) := ⟨⟨by decide +kernel, by decide +kernel⟩, List.mem_of_getElem? (i := 1448) (by decide +kernel), List.mem_of_getElem? (i := 1588) (by decide +kernel), List.mem_of_getElem? (i := 1589) (by decide +kernel)⟩
theorem lw_p43 : lw_okq (⟨"GripEstatesModel", "readPerson", "()Z"⟩, 25) := ⟨⟨by decide +kernel, by decide +kernel⟩, List.mem_of_getElem? (i := 1448) (by decide +kernel), List.mem_of_getElem? (i := 1594) (by decide +kernel), List.mem_of_getElem? (i := 1595) (by decide +kernel)⟩
theorem lw_p44 : lw_okq (⟨"GripEstatesModel", "people", "()I"⟩, 25) := ⟨⟨by decide +kernel, by decide +kernel⟩, List.mem_of_getElem? (i := 1448) (by decide +kernel), List.mem_of_getElem? (i := 1598) (by decide +kernel), List.mem_of_getElem? (i := 1599) (by decide +kernel)⟩
theorem lw_p45 : lw_okq (⟨"GripEstatesModel", "behind", "(Ljava/lang/String;II)I"⟩, 25) := ⟨⟨by decide +kernel, by decide +kernel⟩, List.mem_of_getElem? (i := 1448) (by decide +kernel), List.mem_of_getElem? (i := 1603) (by decide +kernel), List.mem_of_getElem? (i := 1604) (by decide +kernel)⟩
theorem lw_p46 : lw_okq (⟨"GripEstatesModel", "number", "(II)I"⟩, 25) := ⟨⟨by decide +kernel, by decide +kernel⟩, List.mem_of_getElem? (i := 1448) (by decide +kernel), List.mem_of_getElem? (i := 1607) (by decide +kernel), List.mem_of_getElem? (i := 1608) (by decide +kernel)⟩
theorem lw_p47 : lw_okq (⟨"GripEstatesModel", "passes", "(Ljava/lang/String;)Z"⟩, 25) := ⟨⟨by decide +kernel, by decide +kernel⟩, List.mem_of_getElem? (i := 1448) (by decide +kernel), List.mem_of_getElem? (i := 1613) (by decide +kernel), List.mem_of_getElem? (i := 1614) (by decide +kernel)⟩
def lw_privs_3 : List (MethodName × Nat) := [(⟨"GripEstates$Matches", "leastChoice", "(LGripEstates$Valley;IIII)I"⟩, 5), (⟨"GripEstates$Matches", "readPairs", "(LGripEstates$Valley;)V"⟩, 5), (⟨"GripEstates$Matches", "leastPartner", "(LGripEstates$Valley;II)I"⟩, 5), (⟨"GripEstatesModel", "readAll", "(Z)I"⟩, 25), (⟨"GripEstatesModel", "uses", "()V"⟩, 25), (⟨"GripEstatesModel", "blanks", "()V"⟩, 25), (⟨"GripEstatesModel", "isAt", "(II)Z"⟩, 25), (⟨"GripEstatesModel", "readLine", "(ZI)Z"⟩, 25), (⟨"GripEstatesModel", "letters", "()V"⟩, 25), (⟨"GripEstatesModel", "readValleyLine", "()Z"⟩, 25), (⟨"GripEstatesModel", "isWord", "(Ljava/lang/String;)Z"⟩, 25), (⟨"GripEstatesModel", "readPerson", "()Z"⟩, 25), (⟨"GripEstatesModel", "people", "()I"⟩, 25), (⟨"GripEstatesModel", "behind", "(Ljava/lang/String;II)I"⟩, 25), (⟨"GripEstatesModel", "number", "(II)I"⟩, 25), (⟨"GripEstatesModel", "passes", "(Ljava/lang/String;)Z"⟩, 25)]
theorem lw_r3 : ∀ q ∈ lw_privs_3, lw_okq q := List.forall_mem_cons.mpr ⟨lw_p32, List.forall_mem_cons.mpr ⟨lw_p33, List.forall_mem_cons.mpr ⟨lw_p34, List.forall_mem_cons.mpr ⟨lw_p35, List.forall_mem_cons.mpr ⟨lw_p36, List.forall_mem_cons.mpr ⟨lw_p37, List.forall_mem_cons.mpr ⟨lw_p38, List.forall_mem_cons.mpr ⟨lw_p39, List.forall_mem_cons.mpr ⟨lw_p40, List.forall_mem_cons.mpr ⟨lw_p41, List.forall_mem_cons.mpr ⟨lw_p42, List.forall_mem_cons.mpr ⟨lw_p43, List.forall_mem_cons.mpr ⟨lw_p44, List.forall_mem_cons.mpr ⟨lw_p45, List.forall_mem_cons.mpr ⟨lw_p46, List.forall_mem_cons.mpr ⟨lw_p47, fun _ h => absurd h List.not_mem_nil⟩⟩⟩⟩⟩⟩⟩⟩⟩⟩⟩⟩⟩⟩⟩⟩
theorem lw_p48 : lw_okq (⟨"GripEstatesModel", "livingNumber", "()I"⟩, 25) := ⟨⟨by decide +kernel, by decide +kernel⟩, List.mem_of_getElem? (i := 1448) (by decide +kernel), List.mem_of_getElem? (i := 1617) (by decide +kernel), List.mem_of_getElem? (i := 1618) (by decide +kernel)⟩
theorem lw_p49 : lw_okq (⟨"GripEstatesModel", "lives", "(I)Z"⟩, 25) := ⟨⟨by decide +kernel, by decide +kernel⟩, List.mem_of_getElem? (i := 1448) (by decide +kernel), List.mem_of_getElem? (i := 1621) (by decide +kernel), List.mem_of_getElem? (i := 1622) (by decide +kernel)⟩
theorem lw_p50 : lw_okq (⟨"GripEstatesModel", "of", "(II)I"⟩, 25) := ⟨⟨by decide +kernel, by decide +kernel⟩, List.mem_of_getElem? (i := 1448) (by decide +kernel), List.mem_of_getElem? (i := 1625) (by decide +kernel), List.mem_of_getElem? (i := 1626) (by decide +kernel)⟩
theorem lw_p51 : lw_okq (⟨"GripEstatesModel", "isBorn", "(II)I"⟩, 25) := ⟨⟨by decide +kernel, by decide +kernel⟩, List.mem_of_getElem? (i := 1448) (by decide +kernel), List.mem_of_getElem? (i := 1632) (by decide +kernel), List.mem_of_getElem? (i := 1633) (by decide +kernel)⟩
theorem lw_p52 : lw_okq (⟨"GripEstatesModel", "readHeir", "()Z"⟩, 25) := ⟨⟨by decide +kernel, by decide +kernel⟩, List.mem_of_getElem? (i := 1448) (by decide +kernel), List.mem_of_getElem? (i := 1637) (by decide +kernel), List.mem_of_getElem? (i := 1638) (by decide +kernel)⟩
theorem lw_p53 : lw_okq (⟨"GripEstatesModel", "readThing", "(Z)Z"⟩, 25) := ⟨⟨by decide +kernel, by decide +kernel⟩, List.mem_of_getElem? (i := 1448) (by decide +kernel), List.mem_of_getElem? (i := 1642) (by decide +kernel), List.mem_of_getElem? (i := 1643) (by decide +kernel)⟩
theorem lw_p54 : lw_okq (⟨"GripEstatesModel", "things", "()I"⟩, 25) := ⟨⟨by decide +kernel, by decide +kernel⟩, List.mem_of_getElem? (i := 1448) (by decide +kernel), List.mem_of_getElem? (i := 1646) (by decide +kernel), List.mem_of_getElem? (i := 1647) (by decide +kernel)⟩
theorem lw_p55 : lw_okq (⟨"GripEstatesModel", "isThing", "(III)V"⟩, 25) := ⟨⟨by decide +kernel, by decide +kernel⟩, List.mem_of_getElem? (i := 1448) (by decide +kernel), List.mem_of_getElem? (i := 1653) (by decide +kernel), List.mem_of_getElem? (i := 1654) (by decide +kernel)⟩
theorem lw_p56 : lw_okq (⟨"GripEstatesModel", "lies", "(III)V"⟩, 25) := ⟨⟨by decide +kernel, by decide +kernel⟩, List.mem_of_getElem? (i := 1448) (by decide +kernel), List.mem_of_getElem? (i := 1660) (by decide +kernel), List.mem_of_getElem? (i := 1661) (by decide +kernel)⟩
theorem lw_p57 : lw_okq (⟨"GripEstatesModel", "readWhere", "()Z"⟩, 25) := ⟨⟨by decide +kernel, by decide +kernel⟩, List.mem_of_getElem? (i := 1448) (by decide +kernel), List.mem_of_getElem? (i := 1664) (by decide +kernel), List.mem_of_getElem? (i := 1665) (by decide +kernel)⟩
theorem lw_p58 : lw_okq (⟨"GripEstatesModel", "heldBy", "(I)I"⟩, 25) := ⟨⟨by decide +kernel, by decide +kernel⟩, List.mem_of_getElem? (i := 1448) (by decide +kernel), List.mem_of_getElem? (i := 1670) (by decide +kernel), List.mem_of_getElem? (i := 1671) (by decide +kernel)⟩
theorem lw_p59 : lw_okq (⟨"GripEstatesModel", "isWith", "(III)Z"⟩, 25) := ⟨⟨by decide +kernel, by decide +kernel⟩, List.mem_of_getElem? (i := 1448) (by decide +kernel), List.mem_of_getElem? (i := 1674) (by decide +kernel), List.mem_of_getElem? (i := 1675) (by decide +kernel)⟩
theorem lw_p60 : lw_okq (⟨"GripEstatesModel", "ofThing", "(II)I"⟩, 25) := ⟨⟨by decide +kernel, by decide +kernel⟩, List.mem_of_getElem? (i := 1448) (by decide +kernel), List.mem_of_getElem? (i := 1678) (by decide +kernel), List.mem_of_getElem? (i := 1679) (by decide +kernel)⟩
theorem lw_p61 : lw_okq (⟨"GripEstatesModel", "readNumber", "(III)Z"⟩, 25) := ⟨⟨by decide +kernel, by decide +kernel⟩, List.mem_of_getElem? (i := 1448) (by decide +kernel), List.mem_of_getElem? (i := 1684) (by decide +kernel), List.mem_of_getElem? (i := 1685) (by decide +kernel)⟩
theorem lw_p62 : lw_okq (⟨"GripEstatesModel", "readLawLine", "(I)Z"⟩, 25) := ⟨⟨by decide +kernel, by decide +kernel⟩, List.mem_of_getElem? (i := 1448) (by decide +kernel), List.mem_of_getElem? (i := 1690) (by decide +kernel), List.mem_of_getElem? (i := 1691) (by decide +kernel)⟩
theorem lw_p63 : lw_okq (⟨"GripEstatesModel", "readCond", "()Z"⟩, 25) := ⟨⟨by decide +kernel, by decide +kernel⟩, List.mem_of_getElem? (i := 1448) (by decide +kernel), List.mem_of_getElem? (i := 1697) (by decide +kernel), List.mem_of_getElem? (i := 1698) (by decide +kernel)⟩
def lw_privs_4 : List (MethodName × Nat) := [(⟨"GripEstatesModel", "livingNumber", "()I"⟩, 25), (⟨"GripEstatesModel", "lives", "(I)Z"⟩, 25), (⟨"GripEstatesModel", "of", "(II)I"⟩, 25), (⟨"GripEstatesModel", "isBorn", "(II)I"⟩, 25), (⟨"GripEstatesModel", "readHeir", "()Z"⟩, 25), (⟨"GripEstatesModel", "readThing", "(Z)Z"⟩, 25), (⟨"GripEstatesModel", "things", "()I"⟩, 25), (⟨"GripEstatesModel", "isThing", "(III)V"⟩, 25), (⟨"GripEstatesModel", "lies", "(III)V"⟩, 25), (⟨"GripEstatesModel", "readWhere", "()Z"⟩, 25), (⟨"GripEstatesModel", "heldBy", "(I)I"⟩, 25), (⟨"GripEstatesModel", "isWith", "(III)Z"⟩, 25), (⟨"GripEstatesModel", "ofThing", "(II)I"⟩, 25), (⟨"GripEstatesModel", "readNumber", "(III)Z"⟩, 25), (⟨"GripEstatesModel", "readLawLine", "(I)Z"⟩, 25), (⟨"GripEstatesModel", "readCond", "()Z"⟩, 25)]
theorem lw_r4 : ∀ q ∈ lw_privs_4, lw_okq q := List.forall_mem_cons.mpr ⟨lw_p48, List.forall_mem_cons.mpr ⟨lw_p49, List.forall_mem_cons.mpr ⟨lw_p50, List.forall_mem_cons.mpr ⟨lw_p51, List.forall_mem_cons.mpr ⟨lw_p52, List.forall_mem_cons.mpr ⟨lw_p53, List.forall_mem_cons.mpr ⟨lw_p54, List.forall_mem_cons.mpr ⟨lw_p55, List.forall_mem_cons.mpr ⟨lw_p56, List.forall_mem_cons.mpr ⟨lw_p57, List.forall_mem_cons.mpr ⟨lw_p58, List.forall_mem_cons.mpr ⟨lw_p59, List.forall_mem_cons.mpr ⟨lw_p60, List.forall_mem_cons.mpr ⟨lw_p61, List.forall_mem_cons.mpr ⟨lw_p62, List.forall_mem_cons.mpr ⟨lw_p63, fun _ h => absurd h List.not_mem_nil⟩⟩⟩⟩⟩⟩⟩⟩⟩⟩⟩⟩⟩⟩⟩⟩
theorem lw_p64 : lw_okq (⟨"GripEstatesModel", "readAllOf", "()Z"⟩, 25) := ⟨⟨by decide +kernel, by decide +kernel⟩, List.mem_of_getElem? (i := 1448) (by decide +kernel), List.mem_of_getElem? (i := 1701) (by decide +kernel), List.mem_of_getElem? (i := 1702) (by decide +kernel)⟩
theorem lw_p65 : lw_okq (⟨"GripEstatesModel", "readAtom", "()Z"⟩, 25) := ⟨⟨by decide +kernel, by decide +kernel⟩, List.mem_of_getElem? (i := 1448) (by decide +kernel), List.mem_of_getElem? (i := 1705) (by decide +kernel), List.mem_of_getElem? (i := 1706) (by decide +kernel)⟩
theorem lw_p66 : lw_okq (⟨"GripEstatesModel", "sign", "(I)Z"⟩, 25) := ⟨⟨by decide +kernel, by decide +kernel⟩, List.mem_of_getElem? (i := 1448) (by decide +kernel), List.mem_of_getElem? (i := 1709) (by decide +kernel), List.mem_of_getElem? (i := 1710) (by decide +kernel)⟩
theorem lw_p67 : lw_okq (⟨"GripEstatesModel", "emits", "(II)V"⟩, 25) := ⟨⟨by decide +kernel, by decide +kernel⟩, List.mem_of_getElem? (i := 1448) (by decide +kernel), List.mem_of_getElem? (i := 1714) (by decide +kernel), List.mem_of_getElem? (i := 1715) (by decide +kernel)⟩
theorem lw_p68 : lw_okq (⟨"GripEstatesModel", "readTag", "()Z"⟩, 25) := ⟨⟨by decide +kernel, by decide +kernel⟩, List.mem_of_getElem? (i := 1448) (by decide +kernel), List.mem_of_getElem? (i := 1718) (by decide +kernel), List.mem_of_getElem? (i := 1719) (by decide +kernel)⟩
theorem lw_p69 : lw_okq (⟨"GripEstatesModel", "readSum", "()Z"⟩, 25) := ⟨⟨by decide +kernel, by decide +kernel⟩, List.mem_of_getElem? (i := 1448) (by decide +kernel), List.mem_of_getElem? (i := 1724) (by decide +kernel), List.mem_of_getElem? (i := 1725) (by decide +kernel)⟩
theorem lw_p70 : lw_okq (⟨"GripEstatesModel", "readPart", "()Z"⟩, 25) := ⟨⟨by decide +kernel, by decide +kernel⟩, List.mem_of_getElem? (i := 1448) (by decide +kernel), List.mem_of_getElem? (i := 1728) (by decide +kernel), List.mem_of_getElem? (i := 1729) (by decide +kernel)⟩
theorem lw_p71 : lw_okq (⟨"GripEstatesModel", "wordOfPart", "()I"⟩, 25) := ⟨⟨by decide +kernel, by decide +kernel⟩, List.mem_of_getElem? (i := 1448) (by decide +kernel), List.mem_of_getElem? (i := 1732) (by decide +kernel), List.mem_of_getElem? (i := 1733) (by decide +kernel)⟩
theorem lw_p72 : lw_okq (⟨"GripEstatesModel", "throwsIf", "(ZI)Z"⟩, 25) := ⟨⟨by decide +kernel, by decide +kernel⟩, List.mem_of_getElem? (i := 1448) (by decide +kernel), List.mem_of_getElem? (i := 1741) (by decide +kernel), List.mem_of_getElem? (i := 1742) (by decide +kernel)⟩
theorem lw_p73 : lw_okq (⟨"GripEstatesModel", "noPerson", "(I)Z"⟩, 25) := ⟨⟨by decide +kernel, by decide +kernel⟩, List.mem_of_getElem? (i := 1448) (by decide +kernel), List.mem_of_getElem? (i := 1753) (by decide +kernel), List.mem_of_getElem? (i := 1754) (by decide +kernel)⟩
theorem lw_p74 : lw_okq (⟨"GripEstatesModel", "gripsOf", "(I)I"⟩, 25) := ⟨⟨by decide +kernel, by decide +kernel⟩, List.mem_of_getElem? (i := 1448) (by decide +kernel), List.mem_of_getElem? (i := 1760) (by decide +kernel), List.mem_of_getElem? (i := 1761) (by decide +kernel)⟩
theorem lw_p75 : lw_okq (⟨"GripEstatesModel", "sumOf", "(II)I"⟩, 25) := ⟨⟨by decide +kernel, by decide +kernel⟩, List.mem_of_getElem? (i := 1448) (by decide +kernel), List.mem_of_getElem? (i := 1764) (by decide +kernel), List.mem_of_getElem? (i := 1765) (by decide +kernel)⟩
theorem lw_p76 : lw_okq (⟨"GripEstatesModel", "holdsLine", "(II)Z"⟩, 25) := ⟨⟨by decide +kernel, by decide +kernel⟩, List.mem_of_getElem? (i := 1448) (by decide +kernel), List.mem_of_getElem? (i := 1768) (by decide +kernel), List.mem_of_getElem? (i := 1769) (by decide +kernel)⟩
theorem lw_p77 : lw_okq (⟨"GripEstatesModel", "factOf", "(III)I"⟩, 25) := ⟨⟨by decide +kernel, by decide +kernel⟩, List.mem_of_getElem? (i := 1448) (by decide +kernel), List.mem_of_getElem? (i := 1772) (by decide +kernel), List.mem_of_getElem? (i := 1773) (by decide +kernel)⟩
theorem lw_p78 : lw_okq (⟨"GripEstatesModel", "ownedBy", "(I)I"⟩, 25) := ⟨⟨by decide +kernel, by decide +kernel⟩, List.mem_of_getElem? (i := 1448) (by decide +kernel), List.mem_of_getElem? (i := 1776) (by decide +kernel), List.mem_of_getElem? (i := 1777) (by decide +kernel)⟩
theorem lw_p79 : lw_okq (⟨"GripEstatesModel", "onClothOf", "(I)I"⟩, 25) := ⟨⟨by decide +kernel, by decide +kernel⟩, List.mem_of_getElem? (i := 1448) (by decide +kernel), List.mem_of_getElem? (i := 1781) (by decide +kernel), List.mem_of_getElem? (i := 1782) (by decide +kernel)⟩
def lw_privs_5 : List (MethodName × Nat) := [(⟨"GripEstatesModel", "readAllOf", "()Z"⟩, 25), (⟨"GripEstatesModel", "readAtom", "()Z"⟩, 25), (⟨"GripEstatesModel", "sign", "(I)Z"⟩, 25), (⟨"GripEstatesModel", "emits", "(II)V"⟩, 25), (⟨"GripEstatesModel", "readTag", "()Z"⟩, 25), (⟨"GripEstatesModel", "readSum", "()Z"⟩, 25), (⟨"GripEstatesModel", "readPart", "()Z"⟩, 25), (⟨"GripEstatesModel", "wordOfPart", "()I"⟩, 25), (⟨"GripEstatesModel", "throwsIf", "(ZI)Z"⟩, 25), (⟨"GripEstatesModel", "noPerson", "(I)Z"⟩, 25), (⟨"GripEstatesModel", "gripsOf", "(I)I"⟩, 25), (⟨"GripEstatesModel", "sumOf", "(II)I"⟩, 25), (⟨"GripEstatesModel", "holdsLine", "(II)Z"⟩, 25), (⟨"GripEstatesModel", "factOf", "(III)I"⟩, 25), (⟨"GripEstatesModel", "ownedBy", "(I)I"⟩, 25), (⟨"GripEstatesModel", "onClothOf", "(I)I"⟩, 25)]
theorem lw_r5 : ∀ q ∈ lw_privs_5, lw_okq q := List.forall_mem_cons.mpr ⟨lw_p64, List.forall_mem_cons.mpr ⟨lw_p65, List.forall_mem_cons.mpr ⟨lw_p66, List.forall_mem_cons.mpr ⟨lw_p67, List.forall_mem_cons.mpr ⟨lw_p68, List.forall_mem_cons.mpr ⟨lw_p69, List.forall_mem_cons.mpr ⟨lw_p70, List.forall_mem_cons.mpr ⟨lw_p71, List.forall_mem_cons.mpr ⟨lw_p72, List.forall_mem_cons.mpr ⟨lw_p73, List.forall_mem_cons.mpr ⟨lw_p74, List.forall_mem_cons.mpr ⟨lw_p75, List.forall_mem_cons.mpr ⟨lw_p76, List.forall_mem_cons.mpr ⟨lw_p77, List.forall_mem_cons.mpr ⟨lw_p78, List.forall_mem_cons.mpr ⟨lw_p79, fun _ h => absurd h List.not_mem_nil⟩⟩⟩⟩⟩⟩⟩⟩⟩⟩⟩⟩⟩⟩⟩⟩
theorem lw_p80 : lw_okq (⟨"GripEstatesModel", "successorOf", "(I)I"⟩, 25) := ⟨⟨by decide +kernel, by decide +kernel⟩, List.mem_of_getElem? (i := 1448) (by decide +kernel), List.mem_of_getElem? (i := 1785) (by decide +kernel), List.mem_of_getElem? (i := 1786) (by decide +kernel)⟩
theorem lw_p81 : lw_okq (⟨"GripEstatesModel", "allLiving", "()I"⟩, 25) := ⟨⟨by decide +kernel, by decide +kernel⟩, List.mem_of_getElem? (i := 1448) (by decide +kernel), List.mem_of_getElem? (i := 1789) (by decide +kernel), List.mem_of_getElem? (i := 1790) (by decide +kernel)⟩
theorem lw_p82 : lw_okq (⟨"GripEstatesModel", "failsOf", "(I)I"⟩, 25) := ⟨⟨by decide +kernel, by decide +kernel⟩, List.mem_of_getElem? (i := 1448) (by decide +kernel), List.mem_of_getElem? (i := 1794) (by decide +kernel), List.mem_of_getElem? (i := 1795) (by decide +kernel)⟩
theorem lw_p83 : lw_okq (⟨"GripEstatesModel", "estateOf", "(I)I"⟩, 25) := ⟨⟨by decide +kernel, by decide +kernel⟩, List.mem_of_getElem? (i := 1448) (by decide +kernel), List.mem_of_getElem? (i := 1799) (by decide +kernel), List.mem_of_getElem? (i := 1800) (by decide +kernel)⟩
theorem lw_p84 : lw_okq (⟨"GripEstatesModel", "lostOf", "(I)I"⟩, 25) := ⟨⟨by decide +kernel, by decide +kernel⟩, List.mem_of_getElem? (i := 1448) (by decide +kernel), List.mem_of_getElem? (i := 1803) (by decide +kernel), List.mem_of_getElem? (i := 1804) (by decide +kernel)⟩
theorem lw_p85 : lw_okq (⟨"GripEstatesModel", "worthOf", "(I)I"⟩, 25) := ⟨⟨by decide +kernel, by decide +kernel⟩, List.mem_of_getElem? (i := 1448) (by decide +kernel), List.mem_of_getElem? (i := 1807) (by decide +kernel), List.mem_of_getElem? (i := 1808) (by decide +kernel)⟩
theorem lw_p86 : lw_okq (⟨"GripEstatesModel", "lineOf", "(I)I"⟩, 25) := ⟨⟨by decide +kernel, by decide +kernel⟩, List.mem_of_getElem? (i := 1448) (by decide +kernel), List.mem_of_getElem? (i := 1814) (by decide +kernel), List.mem_of_getElem? (i := 1815) (by decide +kernel)⟩
theorem lw_p87 : lw_okq (⟨"GripEstatesModel", "hangsOn", "(I)I"⟩, 25) := ⟨⟨by decide +kernel, by decide +kernel⟩, List.mem_of_getElem? (i := 1448) (by decide +kernel), List.mem_of_getElem? (i := 1818) (by decide +kernel), List.mem_of_getElem? (i := 1819) (by decide +kernel)⟩
theorem lw_p88 : lw_okq (⟨"GripEstatesModel", "hopedOf", "(I)I"⟩, 25) := ⟨⟨by decide +kernel, by decide +kernel⟩, List.mem_of_getElem? (i := 1448) (by decide +kernel), List.mem_of_getElem? (i := 1822) (by decide +kernel), List.mem_of_getElem? (i := 1823) (by decide +kernel)⟩
theorem lw_p89 : lw_okq (⟨"GripEstatesModel", "canHold", "(II)Z"⟩, 25) := ⟨⟨by decide +kernel, by decide +kernel⟩, List.mem_of_getElem? (i := 1448) (by decide +kernel), List.mem_of_getElem? (i := 1826) (by decide +kernel), List.mem_of_getElem? (i := 1827) (by decide +kernel)⟩
theorem lw_p90 : lw_okq (⟨"GripEstatesModel", "coreOf", "(I)I"⟩, 25) := ⟨⟨by decide +kernel, by decide +kernel⟩, List.mem_of_getElem? (i := 1448) (by decide +kernel), List.mem_of_getElem? (i := 1830) (by decide +kernel), List.mem_of_getElem? (i := 1831) (by decide +kernel)⟩
theorem lw_p91 : lw_okq (⟨"GripEstatesModel", "comeRound", "(I)I"⟩, 25) := ⟨⟨by decide +kernel, by decide +kernel⟩, List.mem_of_getElem? (i := 1448) (by decide +kernel), List.mem_of_getElem? (i := 1834) (by decide +kernel), List.mem_of_getElem? (i := 1835) (by decide +kernel)⟩
theorem lw_p92 : lw_okq (⟨"GripEstatesModel", "likesMore", "(III)Z"⟩, 25) := ⟨⟨by decide +kernel, by decide +kernel⟩, List.mem_of_getElem? (i := 1448) (by decide +kernel), List.mem_of_getElem? (i := 1838) (by decide +kernel), List.mem_of_getElem? (i := 1839) (by decide +kernel)⟩
theorem lw_p93 : lw_okq (⟨"GripEstatesModel", "worthOfAll", "()I"⟩, 25) := ⟨⟨by decide +kernel, by decide +kernel⟩, List.mem_of_getElem? (i := 1448) (by decide +kernel), List.mem_of_getElem? (i := 1842) (by decide +kernel), List.mem_of_getElem? (i := 1843) (by decide +kernel)⟩
theorem lw_p94 : lw_okq (⟨"GripEstatesModel", "noThing", "(I)Z"⟩, 25) := ⟨⟨by decide +kernel, by decide +kernel⟩, List.mem_of_getElem? (i := 1448) (by decide +kernel), List.mem_of_getElem? (i := 1850) (by decide +kernel), List.mem_of_getElem? (i := 1851) (by decide +kernel)⟩
theorem lw_p95 : lw_okq (⟨"GripEstatesModel", "noBoth", "(II)Z"⟩, 25) := ⟨⟨by decide +kernel, by decide +kernel⟩, List.mem_of_getElem? (i := 1448) (by decide +kernel), List.mem_of_getElem? (i := 1858) (by decide +kernel), List.mem_of_getElem? (i := 1859) (by decide +kernel)⟩
def lw_privs_6 : List (MethodName × Nat) := [(⟨"GripEstatesModel", "successorOf", "(I)I"⟩, 25), (⟨"GripEstatesModel", "allLiving", "()I"⟩, 25), (⟨"GripEstatesModel", "failsOf", "(I)I"⟩, 25), (⟨"GripEstatesModel", "estateOf", "(I)I"⟩, 25), (⟨"GripEstatesModel", "lostOf", "(I)I"⟩, 25), (⟨"GripEstatesModel", "worthOf", "(I)I"⟩, 25), (⟨"GripEstatesModel", "lineOf", "(I)I"⟩, 25), (⟨"GripEstatesModel", "hangsOn", "(I)I"⟩, 25), (⟨"GripEstatesModel", "hopedOf", "(I)I"⟩, 25), (⟨"GripEstatesModel", "canHold", "(II)Z"⟩, 25), (⟨"GripEstatesModel", "coreOf", "(I)I"⟩, 25), (⟨"GripEstatesModel", "comeRound", "(I)I"⟩, 25), (⟨"GripEstatesModel", "likesMore", "(III)Z"⟩, 25), (⟨"GripEstatesModel", "worthOfAll", "()I"⟩, 25), (⟨"GripEstatesModel", "noThing", "(I)Z"⟩, 25), (⟨"GripEstatesModel", "noBoth", "(II)Z"⟩, 25)]
theorem lw_r6 : ∀ q ∈ lw_privs_6, lw_okq q := List.forall_mem_cons.mpr ⟨lw_p80, List.forall_mem_cons.mpr ⟨lw_p81, List.forall_mem_cons.mpr ⟨lw_p82, List.forall_mem_cons.mpr ⟨lw_p83, List.forall_mem_cons.mpr ⟨lw_p84, List.forall_mem_cons.mpr ⟨lw_p85, List.forall_mem_cons.mpr ⟨lw_p86, List.forall_mem_cons.mpr ⟨lw_p87, List.forall_mem_cons.mpr ⟨lw_p88, List.forall_mem_cons.mpr ⟨lw_p89, List.forall_mem_cons.mpr ⟨lw_p90, List.forall_mem_cons.mpr ⟨lw_p91, List.forall_mem_cons.mpr ⟨lw_p92, List.forall_mem_cons.mpr ⟨lw_p93, List.forall_mem_cons.mpr ⟨lw_p94, List.forall_mem_cons.mpr ⟨lw_p95, fun _ h => absurd h List.not_mem_nil⟩⟩⟩⟩⟩⟩⟩⟩⟩⟩⟩⟩⟩⟩⟩⟩
theorem lw_p96 : lw_okq (⟨"GripEstatesModel", "remembers", "()V"⟩, 25) := ⟨⟨by decide +kernel, by decide +kernel⟩, List.mem_of_getElem? (i := 1448) (by decide +kernel), List.mem_of_getElem? (i := 1866) (by decide +kernel), List.mem_of_getElem? (i := 1867) (by decide +kernel)⟩
theorem lw_p97 : lw_okq (⟨"GripEstatesModel", "goesOn", "(IZ)I"⟩, 25) := ⟨⟨by decide +kernel, by decide +kernel⟩, List.mem_of_getElem? (i := 1448) (by decide +kernel), List.mem_of_getElem? (i := 1870) (by decide +kernel), List.mem_of_getElem? (i := 1871) (by decide +kernel)⟩
theorem lw_p98 : lw_okq (⟨"GripEstatesModel", "oneNight", "(Z)I"⟩, 25) := ⟨⟨by decide +kernel, by decide +kernel⟩, List.mem_of_getElem? (i := 1448) (by decide +kernel), List.mem_of_getElem? (i := 1874) (by decide +kernel), List.mem_of_getElem? (i := 1875) (by decide +kernel)⟩
theorem lw_p99 : lw_okq (⟨"GripEstatesModel", "allLetGo", "()V"⟩, 25) := ⟨⟨by decide +kernel, by decide +kernel⟩, List.mem_of_getElem? (i := 1448) (by decide +kernel), List.mem_of_getElem? (i := 1878) (by decide +kernel), List.mem_of_getElem? (i := 1879) (by decide +kernel)⟩
theorem lw_p100 : lw_okq (⟨"GripEstatesModel", "isTold", "(III)V"⟩, 25) := ⟨⟨by decide +kernel, by decide +kernel⟩, List.mem_of_getElem? (i := 1448) (by decide +kernel), List.mem_of_getElem? (i := 1882) (by decide +kernel), List.mem_of_getElem? (i := 1883) (by decide +kernel)⟩
theorem lw_p101 : lw_okq (⟨"GripEstatesModel", "allFeel", "()V"⟩, 25) := ⟨⟨by decide +kernel, by decide +kernel⟩, List.mem_of_getElem? (i := 1448) (by decide +kernel), List.mem_of_getElem? (i := 1886) (by decide +kernel), List.mem_of_getElem? (i := 1887) (by decide +kernel)⟩
theorem lw_p102 : lw_okq (⟨"GripEstatesModel", "drawn", "(I)I"⟩, 25) := ⟨⟨by decide +kernel, by decide +kernel⟩, List.mem_of_getElem? (i := 1448) (by decide +kernel), List.mem_of_getElem? (i := 1890) (by decide +kernel), List.mem_of_getElem? (i := 1891) (by decide +kernel)⟩
theorem lw_p103 : lw_okq (⟨"GripEstatesModel", "someDie", "()I"⟩, 25) := ⟨⟨by decide +kernel, by decide +kernel⟩, List.mem_of_getElem? (i := 1448) (by decide +kernel), List.mem_of_getElem? (i := 1902) (by decide +kernel), List.mem_of_getElem? (i := 1903) (by decide +kernel)⟩
theorem lw_p104 : lw_okq (⟨"GripEstatesModel", "dies", "(I)V"⟩, 25) := ⟨⟨by decide +kernel, by decide +kernel⟩, List.mem_of_getElem? (i := 1448) (by decide +kernel), List.mem_of_getElem? (i := 1906) (by decide +kernel), List.mem_of_getElem? (i := 1907) (by decide +kernel)⟩
theorem lw_p105 : lw_okq (⟨"GripEstatesModel", "isFree", "(I)Z"⟩, 25) := ⟨⟨by decide +kernel, by decide +kernel⟩, List.mem_of_getElem? (i := 1448) (by decide +kernel), List.mem_of_getElem? (i := 1914) (by decide +kernel), List.mem_of_getElem? (i := 1915) (by decide +kernel)⟩
theorem lw_p106 : lw_okq (⟨"GripEstatesModel", "isPutBy", "(I)I"⟩, 25) := ⟨⟨by decide +kernel, by decide +kernel⟩, List.mem_of_getElem? (i := 1448) (by decide +kernel), List.mem_of_getElem? (i := 1922) (by decide +kernel), List.mem_of_getElem? (i := 1923) (by decide +kernel)⟩
theorem lw_p107 : lw_okq (⟨"GripEstatesModel", "holds", "(II)V"⟩, 25) := ⟨⟨by decide +kernel, by decide +kernel⟩, List.mem_of_getElem? (i := 1448) (by decide +kernel), List.mem_of_getElem? (i := 1938) (by decide +kernel), List.mem_of_getElem? (i := 1939) (by decide +kernel)⟩
theorem lw_p108 : lw_okq (⟨"GripEstatesModel", "isNow", "(II)I"⟩, 25) := ⟨⟨by decide +kernel, by decide +kernel⟩, List.mem_of_getElem? (i := 1448) (by decide +kernel), List.mem_of_getElem? (i := 1946) (by decide +kernel), List.mem_of_getElem? (i := 1947) (by decide +kernel)⟩
theorem lw_p109 : lw_okq (⟨"GripEstatesModel", "sizeOf", "(I)I"⟩, 25) := ⟨⟨by decide +kernel, by decide +kernel⟩, List.mem_of_getElem? (i := 1448) (by decide +kernel), List.mem_of_getElem? (i := 1966) (by decide +kernel), List.mem_of_getElem? (i := 1967) (by decide +kernel)⟩
theorem lw_p110 : lw_okq (⟨"GripEstatesModel", "isBetter", "(II)Z"⟩, 25) := ⟨⟨by decide +kernel, by decide +kernel⟩, List.mem_of_getElem? (i := 1448) (by decide +kernel), List.mem_of_getElem? (i := 1970) (by decide +kernel), List.mem_of_getElem? (i := 1971) (by decide +kernel)⟩
theorem lw_p111 : lw_okq (⟨"GripEstatesModel", "areWatched", "(I)Z"⟩, 25) := ⟨⟨by decide +kernel, by decide +kernel⟩, List.mem_of_getElem? (i := 1448) (by decide +kernel), List.mem_of_getElem? (i := 1986) (by decide +kernel), List.mem_of_getElem? (i := 1987) (by decide +kernel)⟩
def lw_privs_7 : List (MethodName × Nat) := [(⟨"GripEstatesModel", "remembers", "()V"⟩, 25), (⟨"GripEstatesModel", "goesOn", "(IZ)I"⟩, 25), (⟨"GripEstatesModel", "oneNight", "(Z)I"⟩, 25), (⟨"GripEstatesModel", "allLetGo", "()V"⟩, 25), (⟨"GripEstatesModel", "isTold", "(III)V"⟩, 25), (⟨"GripEstatesModel", "allFeel", "()V"⟩, 25), (⟨"GripEstatesModel", "drawn", "(I)I"⟩, 25), (⟨"GripEstatesModel", "someDie", "()I"⟩, 25), (⟨"GripEstatesModel", "dies", "(I)V"⟩, 25), (⟨"GripEstatesModel", "isFree", "(I)Z"⟩, 25), (⟨"GripEstatesModel", "isPutBy", "(I)I"⟩, 25), (⟨"GripEstatesModel", "holds", "(II)V"⟩, 25), (⟨"GripEstatesModel", "isNow", "(II)I"⟩, 25), (⟨"GripEstatesModel", "sizeOf", "(I)I"⟩, 25), (⟨"GripEstatesModel", "isBetter", "(II)Z"⟩, 25), (⟨"GripEstatesModel", "areWatched", "(I)Z"⟩, 25)]
theorem lw_r7 : ∀ q ∈ lw_privs_7, lw_okq q := List.forall_mem_cons.mpr ⟨lw_p96, List.forall_mem_cons.mpr ⟨lw_p97, List.forall_mem_cons.mpr ⟨lw_p98, List.forall_mem_cons.mpr ⟨lw_p99, List.forall_mem_cons.mpr ⟨lw_p100, List.forall_mem_cons.mpr ⟨lw_p101, List.forall_mem_cons.mpr ⟨lw_p102, List.forall_mem_cons.mpr ⟨lw_p103, List.forall_mem_cons.mpr ⟨lw_p104, List.forall_mem_cons.mpr ⟨lw_p105, List.forall_mem_cons.mpr ⟨lw_p106, List.forall_mem_cons.mpr ⟨lw_p107, List.forall_mem_cons.mpr ⟨lw_p108, List.forall_mem_cons.mpr ⟨lw_p109, List.forall_mem_cons.mpr ⟨lw_p110, List.forall_mem_cons.mpr ⟨lw_p111, fun _ h => absurd h List.not_mem_nil⟩⟩⟩⟩⟩⟩⟩⟩⟩⟩⟩⟩⟩⟩⟩⟩
theorem lw_p112 : lw_okq (⟨"GripEstatesModel", "putIf", "(III)I"⟩, 25) := ⟨⟨by decide +kernel, by decide +kernel⟩, List.mem_of_getElem? (i := 1448) (by decide +kernel), List.mem_of_getElem? (i := 1997) (by decide +kernel), List.mem_of_getElem? (i := 1998) (by decide +kernel)⟩
theorem lw_p113 : lw_okq (⟨"GripEstatesModel", "isHeld", "()Z"⟩, 25) := ⟨⟨by decide +kernel, by decide +kernel⟩, List.mem_of_getElem? (i := 1448) (by decide +kernel), List.mem_of_getElem? (i := 2005) (by decide +kernel), List.mem_of_getElem? (i := 2006) (by decide +kernel)⟩
theorem lw_p114 : lw_okq (⟨"GripEstatesModel", "thatFit", "()I"⟩, 25) := ⟨⟨by decide +kernel, by decide +kernel⟩, List.mem_of_getElem? (i := 1448) (by decide +kernel), List.mem_of_getElem? (i := 2009) (by decide +kernel), List.mem_of_getElem? (i := 2010) (by decide +kernel)⟩
theorem lw_p115 : lw_okq (⟨"GripEstatesModel", "wrongRows", "(I)I"⟩, 25) := ⟨⟨by decide +kernel, by decide +kernel⟩, List.mem_of_getElem? (i := 1448) (by decide +kernel), List.mem_of_getElem? (i := 2013) (by decide +kernel), List.mem_of_getElem? (i := 2014) (by decide +kernel)⟩
theorem lw_p116 : lw_okq (⟨"GripEstatesModel", "whatOf", "(II)I"⟩, 25) := ⟨⟨by decide +kernel, by decide +kernel⟩, List.mem_of_getElem? (i := 1448) (by decide +kernel), List.mem_of_getElem? (i := 2017) (by decide +kernel), List.mem_of_getElem? (i := 2018) (by decide +kernel)⟩
theorem lw_p117 : lw_okq (⟨"GripEstatesModel", "partOf", "(II)I"⟩, 25) := ⟨⟨by decide +kernel, by decide +kernel⟩, List.mem_of_getElem? (i := 1448) (by decide +kernel), List.mem_of_getElem? (i := 2030) (by decide +kernel), List.mem_of_getElem? (i := 2031) (by decide +kernel)⟩
theorem lw_p118 : lw_okq (⟨"GripEstatesModel", "isStrong", "()Z"⟩, 25) := ⟨⟨by decide +kernel, by decide +kernel⟩, List.mem_of_getElem? (i := 1448) (by decide +kernel), List.mem_of_getElem? (i := 2038) (by decide +kernel), List.mem_of_getElem? (i := 2039) (by decide +kernel)⟩
theorem lw_p119 : lw_okq (⟨"GripEstatesModel", "wrongTries", "(I)I"⟩, 25) := ⟨⟨by decide +kernel, by decide +kernel⟩, List.mem_of_getElem? (i := 1448) (by decide +kernel), List.mem_of_getElem? (i := 2042) (by decide +kernel), List.mem_of_getElem? (i := 2043) (by decide +kernel)⟩
theorem lw_p120 : lw_okq (⟨"GripEstatesModel", "manyStrong", "(I)I"⟩, 25) := ⟨⟨by decide +kernel, by decide +kernel⟩, List.mem_of_getElem? (i := 1448) (by decide +kernel), List.mem_of_getElem? (i := 2046) (by decide +kernel), List.mem_of_getElem? (i := 2047) (by decide +kernel)⟩
theorem lw_p121 : lw_okq (⟨"GripEstatesModel", "isFingers", "(I)Z"⟩, 25) := ⟨⟨by decide +kernel, by decide +kernel⟩, List.mem_of_getElem? (i := 1448) (by decide +kernel), List.mem_of_getElem? (i := 2058) (by decide +kernel), List.mem_of_getElem? (i := 2059) (by decide +kernel)⟩
theorem lw_p122 : lw_okq (⟨"GripEstatesModel", "laysWins", "()V"⟩, 25) := ⟨⟨by decide +kernel, by decide +kernel⟩, List.mem_of_getElem? (i := 1448) (by decide +kernel), List.mem_of_getElem? (i := 2062) (by decide +kernel), List.mem_of_getElem? (i := 2063) (by decide +kernel)⟩
theorem lw_p123 : lw_okq (⟨"GripEstatesModel", "laysPairs", "()V"⟩, 25) := ⟨⟨by decide +kernel, by decide +kernel⟩, List.mem_of_getElem? (i := 1448) (by decide +kernel), List.mem_of_getElem? (i := 2074) (by decide +kernel), List.mem_of_getElem? (i := 2075) (by decide +kernel)⟩
theorem lw_p124 : lw_okq (⟨"GripEstatesModel", "pairedBy", "(II)I"⟩, 25) := ⟨⟨by decide +kernel, by decide +kernel⟩, List.mem_of_getElem? (i := 1448) (by decide +kernel), List.mem_of_getElem? (i := 2078) (by decide +kernel), List.mem_of_getElem? (i := 2079) (by decide +kernel)⟩
theorem lw_p125 : lw_okq (⟨"GripEstatesModel", "canPair", "(II)Z"⟩, 25) := ⟨⟨by decide +kernel, by decide +kernel⟩, List.mem_of_getElem? (i := 1448) (by decide +kernel), List.mem_of_getElem? (i := 2085) (by decide +kernel), List.mem_of_getElem? (i := 2086) (by decide +kernel)⟩
theorem lw_p126 : lw_okq (⟨"GripEstatesModel", "heirHas", "(III)I"⟩, 25) := ⟨⟨by decide +kernel, by decide +kernel⟩, List.mem_of_getElem? (i := 1448) (by decide +kernel), List.mem_of_getElem? (i := 2093) (by decide +kernel), List.mem_of_getElem? (i := 2094) (by decide +kernel)⟩
theorem lw_p127 : lw_okq (⟨"GripEstatesModel", "nurseHas", "(III)I"⟩, 25) := ⟨⟨by decide +kernel, by decide +kernel⟩, List.mem_of_getElem? (i := 1448) (by decide +kernel), List.mem_of_getElem? (i := 2097) (by decide +kernel), List.mem_of_getElem? (i := 2098) (by decide +kernel)⟩
def lw_privs_8 : List (MethodName × Nat) := [(⟨"GripEstatesModel", "putIf", "(III)I"⟩, 25), (⟨"GripEstatesModel", "isHeld", "()Z"⟩, 25), (⟨"GripEstatesModel", "thatFit", "()I"⟩, 25), (⟨"GripEstatesModel", "wrongRows", "(I)I"⟩, 25), (⟨"GripEstatesModel", "whatOf", "(II)I"⟩, 25), (⟨"GripEstatesModel", "partOf", "(II)I"⟩, 25), (⟨"GripEstatesModel", "isStrong", "()Z"⟩, 25), (⟨"GripEstatesModel", "wrongTries", "(I)I"⟩, 25), (⟨"GripEstatesModel", "manyStrong", "(I)I"⟩, 25), (⟨"GripEstatesModel", "isFingers", "(I)Z"⟩, 25), (⟨"GripEstatesModel", "laysWins", "()V"⟩, 25), (⟨"GripEstatesModel", "laysPairs", "()V"⟩, 25), (⟨"GripEstatesModel", "pairedBy", "(II)I"⟩, 25), (⟨"GripEstatesModel", "canPair", "(II)Z"⟩, 25), (⟨"GripEstatesModel", "heirHas", "(III)I"⟩, 25), (⟨"GripEstatesModel", "nurseHas", "(III)I"⟩, 25)]
theorem lw_r8 : ∀ q ∈ lw_privs_8, lw_okq q := List.forall_mem_cons.mpr ⟨lw_p112, List.forall_mem_cons.mpr ⟨lw_p113, List.forall_mem_cons.mpr ⟨lw_p114, List.forall_mem_cons.mpr ⟨lw_p115, List.forall_mem_cons.mpr ⟨lw_p116, List.forall_mem_cons.mpr ⟨lw_p117, List.forall_mem_cons.mpr ⟨lw_p118, List.forall_mem_cons.mpr ⟨lw_p119, List.forall_mem_cons.mpr ⟨lw_p120, List.forall_mem_cons.mpr ⟨lw_p121, List.forall_mem_cons.mpr ⟨lw_p122, List.forall_mem_cons.mpr ⟨lw_p123, List.forall_mem_cons.mpr ⟨lw_p124, List.forall_mem_cons.mpr ⟨lw_p125, List.forall_mem_cons.mpr ⟨lw_p126, List.forall_mem_cons.mpr ⟨lw_p127, fun _ h => absurd h List.not_mem_nil⟩⟩⟩⟩⟩⟩⟩⟩⟩⟩⟩⟩⟩⟩⟩⟩
theorem lw_p128 : lw_okq (⟨"GripEstatesModel", "amountOf", "(II)I"⟩, 25) := ⟨⟨by decide +kernel, by decide +kernel⟩, List.mem_of_getElem? (i := 1448) (by decide +kernel), List.mem_of_getElem? (i := 2109) (by decide +kernel), List.mem_of_getElem? (i := 2110) (by decide +kernel)⟩
theorem lw_p129 : lw_okq (⟨"GripEstatesModel", "keepsAll", "()V"⟩, 25) := ⟨⟨by decide +kernel, by decide +kernel⟩, List.mem_of_getElem? (i := 1448) (by decide +kernel), List.mem_of_getElem? (i := 2140) (by decide +kernel), List.mem_of_getElem? (i := 2141) (by decide +kernel)⟩
theorem lw_p130 : lw_okq (⟨"GripEstatesModel", "bringsBack", "()V"⟩, 25) := ⟨⟨by decide +kernel, by decide +kernel⟩, List.mem_of_getElem? (i := 1448) (by decide +kernel), List.mem_of_getElem? (i := 2144) (by decide +kernel), List.mem_of_getElem? (i := 2145) (by decide +kernel)⟩
theorem lw_p131 : lw_okq (⟨"GripEstatesModel", "ofLog", "(II)I"⟩, 25) := ⟨⟨by decide +kernel, by decide +kernel⟩, List.mem_of_getElem? (i := 1448) (by decide +kernel), List.mem_of_getElem? (i := 2160) (by decide +kernel), List.mem_of_getElem? (i := 2161) (by decide +kernel)⟩
theorem lw_p132 : lw_okq (⟨"GripEstatesModel", "manyIn", "(I)I"⟩, 25) := ⟨⟨by decide +kernel, by decide +kernel⟩, List.mem_of_getElem? (i := 1448) (by decide +kernel), List.mem_of_getElem? (i := 2176) (by decide +kernel), List.mem_of_getElem? (i := 2177) (by decide +kernel)⟩
def lw_privs_9 : List (MethodName × Nat) := [(⟨"GripEstatesModel", "amountOf", "(II)I"⟩, 25), (⟨"GripEstatesModel", "keepsAll", "()V"⟩, 25), (⟨"GripEstatesModel", "bringsBack", "()V"⟩, 25), (⟨"GripEstatesModel", "ofLog", "(II)I"⟩, 25), (⟨"GripEstatesModel", "manyIn", "(I)I"⟩, 25)]
theorem lw_r9 : ∀ q ∈ lw_privs_9, lw_okq q := List.forall_mem_cons.mpr ⟨lw_p128, List.forall_mem_cons.mpr ⟨lw_p129, List.forall_mem_cons.mpr ⟨lw_p130, List.forall_mem_cons.mpr ⟨lw_p131, List.forall_mem_cons.mpr ⟨lw_p132, fun _ h => absurd h List.not_mem_nil⟩⟩⟩⟩⟩
def lw_privs : List (MethodName × Nat) := lw_privs_1 ++ (lw_privs_2 ++ (lw_privs_3 ++ (lw_privs_4 ++ (lw_privs_5 ++ (lw_privs_6 ++ (lw_privs_7 ++ (lw_privs_8 ++ (lw_privs_9))))))))
def lw_tbl : List Cond := k2_sels lw_privs ++ tables_1
theorem lw_privs_ok : ∀ q ∈ lw_privs, lw_okq q := by
  show ∀ q ∈ lw_privs_1 ++ (lw_privs_2 ++ (lw_privs_3 ++ (lw_privs_4 ++ (lw_privs_5 ++ (lw_privs_6 ++ (lw_privs_7 ++ (lw_privs_8 ++ (lw_privs_9)))))))), lw_okq q
  exact List.forall_mem_append.mpr ⟨lw_r1, List.forall_mem_append.mpr ⟨lw_r2, List.forall_mem_append.mpr ⟨lw_r3, List.forall_mem_append.mpr ⟨lw_r4, List.forall_mem_append.mpr ⟨lw_r5, List.forall_mem_append.mpr ⟨lw_r6, List.forall_mem_append.mpr ⟨lw_r7, List.forall_mem_append.mpr ⟨lw_r8, lw_r9⟩⟩⟩⟩⟩⟩⟩⟩
-- ===== end of PART A; then your names; then what follows =====
end
section
def RX0 : String := "GripEstates$Estates"
def TX0 : u_T := fun k => match k with
  | _ => ("", "", "", false)
def tyX0 : Nat → FieldType := fun k => match k with
  | _ => .int
theorem nmX0 : ∀ a, a < 0 → ∀ b, b < 0 → a ≠ b → (TX0 a).2.1 ≠ (TX0 b).2.1 := by decide +kernel
theorem tyX0_ok : ∀ k, k < 0 → parseFieldDescriptor (TX0 k).2.2.1 = some (tyX0 k) := by decide +kernel
abbrev cX0_estate : ByteArray := prog_2_method_2_code
def yX0_estate : MethodName := ⟨RX0, "estate", "(LGripEstates$Valley;I)I"⟩
abbrev cX0_lost : ByteArray := prog_2_method_3_code
def yX0_lost : MethodName := ⟨RX0, "lost", "(LGripEstates$Valley;I)I"⟩
abbrev cX0_line : ByteArray := prog_2_method_4_code
def yX0_line : MethodName := ⟨RX0, "line", "(LGripEstates$Valley;I)I"⟩
abbrev cX0_hangers : ByteArray := prog_2_method_5_code
def yX0_hangers : MethodName := ⟨RX0, "hangers", "(LGripEstates$Valley;I)I"⟩
abbrev cX0_shutting : ByteArray := prog_2_method_6_code
def yX0_shutting : MethodName := ⟨RX0, "shutting", "(LGripEstates$Valley;II)I"⟩
abbrev cX0_hoped : ByteArray := prog_2_method_7_code
def yX0_hoped : MethodName := ⟨RX0, "hoped", "(LGripEstates$Valley;I)I"⟩
abbrev cX0_share : ByteArray := prog_2_method_8_code
def yX0_share : MethodName := ⟨RX0, "share", "(LGripEstates$Valley;I)I"⟩
abbrev cX0_basket : ByteArray := prog_2_method_9_code
def yX0_basket : MethodName := ⟨RX0, "basket", "(LGripEstates$Valley;II)I"⟩
abbrev cX0_sizeOf : ByteArray := prog_2_method_10_code
def yX0_sizeOf : MethodName := ⟨RX0, "sizeOf", "(LGripEstates$Valley;I)I"⟩
abbrev cX0_fewestWatchers : ByteArray := prog_2_method_11_code
def yX0_fewestWatchers : MethodName := ⟨RX0, "fewestWatchers", "(LGripEstates$Valley;)I"⟩
abbrev cX0_allWatched : ByteArray := prog_2_method_12_code
def yX0_allWatched : MethodName := ⟨RX0, "allWatched", "(LGripEstates$Valley;I)Z"⟩
abbrev cX0_restingChoices : ByteArray := prog_2_method_13_code
def yX0_restingChoices : MethodName := ⟨RX0, "restingChoices", "(LGripEstates$Valley;I)I"⟩
abbrev cX0_heirHas : ByteArray := prog_2_method_14_code
def yX0_heirHas : MethodName := ⟨RX0, "heirHas", "(III)I"⟩
abbrev cX0_nurseHas : ByteArray := prog_2_method_15_code
def yX0_nurseHas : MethodName := ⟨RX0, "nurseHas", "(II)I"⟩
abbrev cX0_oddsThatAllWake : ByteArray := prog_2_method_16_code
def yX0_oddsThatAllWake : MethodName := ⟨RX0, "oddsThatAllWake", "(LGripEstates$Valley;I)I"⟩
abbrev cX0_foremost : ByteArray := prog_2_method_17_code
def yX0_foremost : MethodName := ⟨RX0, "foremost", "(LGripEstates$Valley;I)I"⟩
abbrev cX0_standing : ByteArray := prog_2_method_18_code
def yX0_standing : MethodName := ⟨RX0, "standing", "(LGripEstates$Valley;II)I"⟩
def RX1 : String := "GripEstates$Law"
def TX1 : u_T := fun k => match k with
  | 0 => ("GripEstates$Law", "lines", "I", true)
  | 1 => ("GripEstates$Law", "kinds", "[I", true)
  | 2 => ("GripEstates$Law", "amounts", "[I", true)
  | 3 => ("GripEstates$Law", "ends", "[I", true)
  | _ => ("GripEstates$Law", "ops", "[I", true)
def tyX1 : Nat → FieldType := fun k => match k with
  | 0 => .int
  | 1 => .array .int
  | 2 => .array .int
  | 3 => .array .int
  | _ => .array .int
theorem nmX1 : ∀ a, a < 5 → ∀ b, b < 5 → a ≠ b → (TX1 a).2.1 ≠ (TX1 b).2.1 := by decide +kernel
theorem tyX1_ok : ∀ k, k < 5 → parseFieldDescriptor (TX1 k).2.2.1 = some (tyX1 k) := by decide +kernel
abbrev cX1_init : ByteArray := prog_3_method_1_code
def yX1_init : MethodName := ⟨RX1, "<init>", "()V"⟩
abbrev cX1_init_ : ByteArray := prog_3_method_2_code
def yX1_init_ : MethodName := ⟨RX1, "<init>", "(I[I[I[I[I)V"⟩
abbrev cX1_total : ByteArray := prog_3_method_3_code
def yX1_total : MethodName := ⟨RX1, "total", "(LGripEstates$Valley;II)I"⟩
abbrev cX1_holds : ByteArray := prog_3_method_4_code
def yX1_holds : MethodName := ⟨RX1, "holds", "(LGripEstates$Valley;III)Z"⟩
def RX2 : String := "GripEstates$LawReader"
def TX2 : u_T := fun k => match k with
  | 0 => ("GripEstates$LawReader", "reader", "LGripEstates$Reader;", true)
  | 1 => ("GripEstates$LawReader", "kinds", "[I", true)
  | 2 => ("GripEstates$LawReader", "amounts", "[I", true)
  | 3 => ("GripEstates$LawReader", "ends", "[I", true)
  | 4 => ("GripEstates$LawReader", "ops", "[I", true)
  | 5 => ("GripEstates$LawReader", "lines", "I", false)
  | _ => ("GripEstates$LawReader", "written", "I", false)
def tyX2 : Nat → FieldType := fun k => match k with
  | 0 => .object "GripEstates$Reader"
  | 1 => .array .int
  | 2 => .array .int
  | 3 => .array .int
  | 4 => .array .int
  | 5 => .int
  | _ => .int
theorem nmX2 : ∀ a, a < 7 → ∀ b, b < 7 → a ≠ b → (TX2 a).2.1 ≠ (TX2 b).2.1 := by decide +kernel
theorem tyX2_ok : ∀ k, k < 7 → parseFieldDescriptor (TX2 k).2.2.1 = some (tyX2 k) := by decide +kernel
abbrev cX2_init : ByteArray := prog_4_method_1_code
def yX2_init : MethodName := ⟨RX2, "<init>", "(LGripEstates$Reader;)V"⟩
abbrev cX2_read : ByteArray := prog_4_method_2_code
def yX2_read : MethodName := ⟨RX2, "read", "(LGripEstates$Tape;)I"⟩
abbrev cX2_made : ByteArray := prog_4_method_3_code
def yX2_made : MethodName := ⟨RX2, "made", "()LGripEstates$Law;"⟩
abbrev cX2_readLine : ByteArray := prog_4_method_4_code
def yX2_readLine : MethodName := ⟨RX2, "readLine", "(I)Z"⟩
abbrev cX2_kindOf : ByteArray := prog_4_method_5_code
def yX2_kindOf : MethodName := ⟨RX2, "kindOf", "(LGripEstates$Token;)I"⟩
abbrev cX2_anyOf : ByteArray := prog_4_method_6_code
def yX2_anyOf : MethodName := ⟨RX2, "anyOf", "(I)Z"⟩
abbrev cX2_allOf : ByteArray := prog_4_method_7_code
def yX2_allOf : MethodName := ⟨RX2, "allOf", "(I)Z"⟩
abbrev cX2_atom : ByteArray := prog_4_method_8_code
def yX2_atom : MethodName := ⟨RX2, "atom", "(I)Z"⟩
abbrev cX2_sum : ByteArray := prog_4_method_9_code
def yX2_sum : MethodName := ⟨RX2, "sum", "()Z"⟩
abbrev cX2_write : ByteArray := prog_4_method_10_code
def yX2_write : MethodName := ⟨RX2, "write", "(I)V"⟩
def RX3 : String := "GripEstates$Log"
def TX3 : u_T := fun k => match k with
  | 0 => ("GripEstates$Log", "cells", "[I", true)
  | 1 => ("GripEstates$Log", "next", "I", false)
  | _ => ("GripEstates$Log", "rows", "I", false)
def tyX3 : Nat → FieldType := fun k => match k with
  | 0 => .array .int
  | 1 => .int
  | _ => .int
theorem nmX3 : ∀ a, a < 3 → ∀ b, b < 3 → a ≠ b → (TX3 a).2.1 ≠ (TX3 b).2.1 := by decide +kernel
theorem tyX3_ok : ∀ k, k < 3 → parseFieldDescriptor (TX3 k).2.2.1 = some (tyX3 k) := by decide +kernel
abbrev cX3_init : ByteArray := prog_5_method_1_code
def yX3_init : MethodName := ⟨RX3, "<init>", "()V"⟩
abbrev cX3_copyFrom : ByteArray := prog_5_method_2_code
def yX3_copyFrom : MethodName := ⟨RX3, "copyFrom", "(LGripEstates$Log;)V"⟩
abbrev cX3_add : ByteArray := prog_5_method_3_code
def yX3_add : MethodName := ⟨RX3, "add", "(IIIII)V"⟩
abbrev cX3_read : ByteArray := prog_5_method_4_code
def yX3_read : MethodName := ⟨RX3, "read", "(II)I"⟩
abbrev cX3_rowsOf : ByteArray := prog_5_method_5_code
def yX3_rowsOf : MethodName := ⟨RX3, "rowsOf", "(I)I"⟩
abbrev cX3_latestNightOf : ByteArray := prog_5_method_6_code
def yX3_latestNightOf : MethodName := ⟨RX3, "latestNightOf", "(I)I"⟩
def RX4 : String := "GripEstates$Matches"
def TX4 : u_T := fun k => match k with
  | 0 => ("GripEstates$Matches", "grips", "[I", true)
  | 1 => ("GripEstates$Matches", "order", "[I", true)
  | 2 => ("GripEstates$Matches", "holds", "[I", true)
  | 3 => ("GripEstates$Matches", "pointsAt", "[I", true)
  | _ => ("GripEstates$Matches", "paired", "[I", true)
def tyX4 : Nat → FieldType := fun k => match k with
  | 0 => .array .int
  | 1 => .array .int
  | 2 => .array .int
  | 3 => .array .int
  | _ => .array .int
theorem nmX4 : ∀ a, a < 5 → ∀ b, b < 5 → a ≠ b → (TX4 a).2.1 ≠ (TX4 b).2.1 := by decide +kernel
theorem tyX4_ok : ∀ k, k < 5 → parseFieldDescriptor (TX4 k).2.2.1 = some (tyX4 k) := by decide +kernel
abbrev cX4_init : ByteArray := prog_6_method_1_code
def yX4_init : MethodName := ⟨RX4, "<init>", "()V"⟩
abbrev cX4_mostHeld : ByteArray := prog_6_method_2_code
def yX4_mostHeld : MethodName := ⟨RX4, "mostHeld", "(LGripEstates$Valley;)I"⟩
abbrev cX4_thingPutTo : ByteArray := prog_6_method_3_code
def yX4_thingPutTo : MethodName := ⟨RX4, "thingPutTo", "(LGripEstates$Valley;I)I"⟩
abbrev cX4_leastChoice : ByteArray := prog_6_method_4_code
def yX4_leastChoice : MethodName := ⟨RX4, "leastChoice", "(LGripEstates$Valley;IIII)I"⟩
abbrev cX4_mostHeldBy : ByteArray := prog_6_method_5_code
def yX4_mostHeldBy : MethodName := ⟨RX4, "mostHeldBy", "(LGripEstates$Valley;II)I"⟩
abbrev cX4_weakestHand : ByteArray := prog_6_method_6_code
def yX4_weakestHand : MethodName := ⟨RX4, "weakestHand", "(II)I"⟩
abbrev cX4_readHands : ByteArray := prog_6_method_7_code
def yX4_readHands : MethodName := ⟨RX4, "readHands", "(LGripEstates$Valley;)V"⟩
abbrev cX4_mostPaired : ByteArray := prog_6_method_8_code
def yX4_mostPaired : MethodName := ⟨RX4, "mostPaired", "(LGripEstates$Valley;)I"⟩
abbrev cX4_partner : ByteArray := prog_6_method_9_code
def yX4_partner : MethodName := ⟨RX4, "partner", "(LGripEstates$Valley;I)I"⟩
abbrev cX4_leastPartner : ByteArray := prog_6_method_10_code
def yX4_leastPartner : MethodName := ⟨RX4, "leastPartner", "(LGripEstates$Valley;II)I"⟩
abbrev cX4_readPairs : ByteArray := prog_6_method_11_code
def yX4_readPairs : MethodName := ⟨RX4, "readPairs", "(LGripEstates$Valley;)V"⟩
abbrev cX4_mayPair : ByteArray := prog_6_method_12_code
def yX4_mayPair : MethodName := ⟨RX4, "mayPair", "(LGripEstates$Valley;II)Z"⟩
abbrev cX4_gripsOf : ByteArray := prog_6_method_13_code
def yX4_gripsOf : MethodName := ⟨RX4, "gripsOf", "(LGripEstates$Valley;II)I"⟩
abbrev cX4_core : ByteArray := prog_6_method_14_code
def yX4_core : MethodName := ⟨RX4, "core", "(LGripEstates$Valley;I)I"⟩
abbrev cX4_point : ByteArray := prog_6_method_15_code
def yX4_point : MethodName := ⟨RX4, "point", "(LGripEstates$Valley;I)V"⟩
abbrev cX4_isBetter : ByteArray := prog_6_method_16_code
def yX4_isBetter : MethodName := ⟨RX4, "isBetter", "(LGripEstates$Valley;II)Z"⟩
abbrev cX4_inRings : ByteArray := prog_6_method_17_code
def yX4_inRings : MethodName := ⟨RX4, "inRings", "(LGripEstates$Valley;I)I"⟩
def RX5 : String := "GripEstates$Reader"
def TX5 : u_T := fun k => match k with
  | 0 => ("GripEstates$Reader", "tokens", "[LGripEstates$Token;", true)
  | 1 => ("GripEstates$Reader", "values", "[I", true)
  | 2 => ("GripEstates$Reader", "begins", "[I", true)
  | 3 => ("GripEstates$Reader", "last", "I", false)
  | 4 => ("GripEstates$Reader", "at", "I", false)
  | _ => ("GripEstates$Reader", "taken", "I", false)
def tyX5 : Nat → FieldType := fun k => match k with
  | 0 => .array (.object "GripEstates$Token")
  | 1 => .array .int
  | 2 => .array .int
  | 3 => .int
  | 4 => .int
  | _ => .int
theorem nmX5 : ∀ a, a < 6 → ∀ b, b < 6 → a ≠ b → (TX5 a).2.1 ≠ (TX5 b).2.1 := by decide +kernel
theorem tyX5_ok : ∀ k, k < 6 → parseFieldDescriptor (TX5 k).2.2.1 = some (tyX5 k) := by decide +kernel
abbrev cX5_init : ByteArray := prog_7_method_1_code
def yX5_init : MethodName := ⟨RX5, "<init>", "()V"⟩
abbrev cX5_start : ByteArray := prog_7_method_2_code
def yX5_start : MethodName := ⟨RX5, "start", "(LGripEstates$Tape;)V"⟩
abbrev cX5_token : ByteArray := prog_7_method_3_code
def yX5_token : MethodName := ⟨RX5, "token", "()LGripEstates$Token;"⟩
abbrev cX5_value : ByteArray := prog_7_method_4_code
def yX5_value : MethodName := ⟨RX5, "value", "()I"⟩
abbrev cX5_begin : ByteArray := prog_7_method_5_code
def yX5_begin : MethodName := ⟨RX5, "begin", "()I"⟩
abbrev cX5_take : ByteArray := prog_7_method_6_code
def yX5_take : MethodName := ⟨RX5, "take", "(LGripEstates$Token;)Z"⟩
abbrev cX5_takeNumber : ByteArray := prog_7_method_7_code
def yX5_takeNumber : MethodName := ⟨RX5, "takeNumber", "(II)Z"⟩
abbrev cX5_takeNamed : ByteArray := prog_7_method_8_code
def yX5_takeNamed : MethodName := ⟨RX5, "takeNamed", "(LGripEstates$Token;II)Z"⟩
abbrev cX5_step : ByteArray := prog_7_method_9_code
def yX5_step : MethodName := ⟨RX5, "step", "()V"⟩
abbrev cX5_keep : ByteArray := prog_7_method_10_code
def yX5_keep : MethodName := ⟨RX5, "keep", "(LGripEstates$Tape;II)V"⟩
abbrev cX5_numberOf : ByteArray := prog_7_method_11_code
def yX5_numberOf : MethodName := ⟨RX5, "numberOf", "(LGripEstates$Tape;II)I"⟩
abbrev cX5_endOfRun : ByteArray := prog_7_method_12_code
def yX5_endOfRun : MethodName := ⟨RX5, "endOfRun", "(LGripEstates$Tape;I)I"⟩
abbrev cX5_isLetter : ByteArray := prog_7_method_13_code
def yX5_isLetter : MethodName := ⟨RX5, "isLetter", "(I)Z"⟩
abbrev cX5_isDigit : ByteArray := prog_7_method_14_code
def yX5_isDigit : MethodName := ⟨RX5, "isDigit", "(I)Z"⟩
def RX6 : String := "GripEstates$Tape"
def TX6 : u_T := fun k => match k with
  | 0 => ("GripEstates$Tape", "bytes", "[I", true)
  | 1 => ("GripEstates$Tape", "length", "I", false)
  | _ => ("GripEstates$Tape", "used", "I", false)
def tyX6 : Nat → FieldType := fun k => match k with
  | 0 => .array .int
  | 1 => .int
  | _ => .int
theorem nmX6 : ∀ a, a < 3 → ∀ b, b < 3 → a ≠ b → (TX6 a).2.1 ≠ (TX6 b).2.1 := by decide +kernel
theorem tyX6_ok : ∀ k, k < 3 → parseFieldDescriptor (TX6 k).2.2.1 = some (tyX6 k) := by decide +kernel
abbrev cX6_init : ByteArray := prog_8_method_1_code
def yX6_init : MethodName := ⟨RX6, "<init>", "()V"⟩
abbrev cX6_hasRoom : ByteArray := prog_8_method_2_code
def yX6_hasRoom : MethodName := ⟨RX6, "hasRoom", "()Z"⟩
abbrev cX6_add : ByteArray := prog_8_method_3_code
def yX6_add : MethodName := ⟨RX6, "add", "(I)V"⟩
abbrev cX6_cut : ByteArray := prog_8_method_4_code
def yX6_cut : MethodName := ⟨RX6, "cut", "(I)Z"⟩
abbrev cX6_useUp : ByteArray := prog_8_method_5_code
def yX6_useUp : MethodName := ⟨RX6, "useUp", "()V"⟩
abbrev cX6_at : ByteArray := prog_8_method_6_code
def yX6_at : MethodName := ⟨RX6, "at", "(I)I"⟩
def RX7 : String := "GripEstates$Token"
def TX7 : u_T := fun k => match k with
  | _ => ("", "", "", false)
def tyX7 : Nat → FieldType := fun k => match k with
  | _ => .int
theorem nmX7 : ∀ a, a < 0 → ∀ b, b < 0 → a ≠ b → (TX7 a).2.1 ≠ (TX7 b).2.1 := by decide +kernel
theorem tyX7_ok : ∀ k, k < 0 → parseFieldDescriptor (TX7 k).2.2.1 = some (tyX7 k) := by decide +kernel
abbrev cX7_isPart : ByteArray := prog_9_method_4_code
def yX7_isPart : MethodName := ⟨RX7, "isPart", "()Z"⟩
abbrev cX7_isTruth : ByteArray := prog_9_method_5_code
def yX7_isTruth : MethodName := ⟨RX7, "isTruth", "()Z"⟩
abbrev cX7_spelt : ByteArray := prog_9_method_6_code
def yX7_spelt : MethodName := ⟨RX7, "spelt", "(LGripEstates$Tape;II)LGripEstates$Token;"⟩
abbrev cX7_isAt : ByteArray := prog_9_method_7_code
def yX7_isAt : MethodName := ⟨RX7, "isAt", "(LGripEstates$Tape;II)Z"⟩
def RX8 : String := "GripEstates$Told"
def TX8 : u_T := fun k => match k with
  | _ => ("GripEstates$Told", "wins", "[Z", true)
def tyX8 : Nat → FieldType := fun k => match k with
  | _ => .array .boolean
theorem nmX8 : ∀ a, a < 1 → ∀ b, b < 1 → a ≠ b → (TX8 a).2.1 ≠ (TX8 b).2.1 := by decide +kernel
theorem tyX8_ok : ∀ k, k < 1 → parseFieldDescriptor (TX8 k).2.2.1 = some (tyX8 k) := by decide +kernel
abbrev cX8_init : ByteArray := prog_10_method_1_code
def yX8_init : MethodName := ⟨RX8, "<init>", "()V"⟩
abbrev cX8_tellsThings : ByteArray := prog_10_method_2_code
def yX8_tellsThings : MethodName := ⟨RX8, "tellsThings", "(LGripEstates$Tape;)Z"⟩
abbrev cX8_tellsSizes : ByteArray := prog_10_method_3_code
def yX8_tellsSizes : MethodName := ⟨RX8, "tellsSizes", "(LGripEstates$Tape;)Z"⟩
abbrev cX8_tellsFingers : ByteArray := prog_10_method_4_code
def yX8_tellsFingers : MethodName := ⟨RX8, "tellsFingers", "(LGripEstates$Tape;)Z"⟩
abbrev cX8_hasRows : ByteArray := prog_10_method_5_code
def yX8_hasRows : MethodName := ⟨RX8, "hasRows", "(LGripEstates$Tape;)Z"⟩
abbrev cX8_fittingThings : ByteArray := prog_10_method_6_code
def yX8_fittingThings : MethodName := ⟨RX8, "fittingThings", "(LGripEstates$Tape;LGripEstates$Valley;)I"⟩
abbrev cX8_likeliestThing : ByteArray := prog_10_method_7_code
def yX8_likeliestThing : MethodName := ⟨RX8, "likeliestThing", "(LGripEstates$Tape;LGripEstates$Valley;)I"⟩
abbrev cX8_bestQuestion : ByteArray := prog_10_method_8_code
def yX8_bestQuestion : MethodName := ⟨RX8, "bestQuestion", "(LGripEstates$Valley;I)I"⟩
abbrev cX8_greatestPart : ByteArray := prog_10_method_9_code
def yX8_greatestPart : MethodName := ⟨RX8, "greatestPart", "(LGripEstates$Valley;II)I"⟩
abbrev cX8_wrongOfThing : ByteArray := prog_10_method_10_code
def yX8_wrongOfThing : MethodName := ⟨RX8, "wrongOfThing", "(LGripEstates$Tape;LGripEstates$Valley;I)I"⟩
abbrev cX8_tellable : ByteArray := prog_10_method_11_code
def yX8_tellable : MethodName := ⟨RX8, "tellable", "(LGripEstates$Valley;II)I"⟩
abbrev cX8_fittingStrengths : ByteArray := prog_10_method_12_code
def yX8_fittingStrengths : MethodName := ⟨RX8, "fittingStrengths", "(LGripEstates$Tape;)I"⟩
abbrev cX8_leastStrength : ByteArray := prog_10_method_13_code
def yX8_leastStrength : MethodName := ⟨RX8, "leastStrength", "(LGripEstates$Tape;)I"⟩
abbrev cX8_bestSize : ByteArray := prog_10_method_14_code
def yX8_bestSize : MethodName := ⟨RX8, "bestSize", "(I)I"⟩
abbrev cX8_wrongOfStrength : ByteArray := prog_10_method_15_code
def yX8_wrongOfStrength : MethodName := ⟨RX8, "wrongOfStrength", "(LGripEstates$Tape;I)I"⟩
abbrev cX8_winningOpening : ByteArray := prog_10_method_16_code
def yX8_winningOpening : MethodName := ⟨RX8, "winningOpening", "(LGripEstates$Tape;I)I"⟩
def RX9 : String := "GripEstates$Valley"
def TX9 : u_T := fun k => match k with
  | 0 => ("GripEstates$Valley", "people", "I", false)
  | 1 => ("GripEstates$Valley", "age", "[I", true)
  | 2 => ("GripEstates$Valley", "grip", "[I", true)
  | 3 => ("GripEstates$Valley", "heir", "[I", true)
  | 4 => ("GripEstates$Valley", "tied", "I", false)
  | 5 => ("GripEstates$Valley", "living", "I", false)
  | 6 => ("GripEstates$Valley", "things", "I", false)
  | 7 => ("GripEstates$Valley", "worth", "[I", true)
  | 8 => ("GripEstates$Valley", "size", "[I", true)
  | 9 => ("GripEstates$Valley", "owner", "[I", true)
  | 10 => ("GripEstates$Valley", "place", "[I", true)
  | 11 => ("GripEstates$Valley", "whose", "[I", true)
  | 12 => ("GripEstates$Valley", "night", "I", false)
  | 13 => ("GripEstates$Valley", "death", "I", false)
  | 14 => ("GripEstates$Valley", "witnesses", "I", false)
  | 15 => ("GripEstates$Valley", "seed", "I", false)
  | 16 => ("GripEstates$Valley", "texts", "I", false)
  | 17 => ("GripEstates$Valley", "law", "LGripEstates$Law;", false)
  | _ => ("GripEstates$Valley", "log", "LGripEstates$Log;", true)
def tyX9 : Nat → FieldType := fun k => match k with
  | 0 => .int
  | 1 => .array .int
  | 2 => .array .int
  | 3 => .array .int
  | 4 => .int
  | 5 => .int
  | 6 => .int
  | 7 => .array .int
  | 8 => .array .int
  | 9 => .array .int
  | 10 => .array .int
  | 11 => .array .int
  | 12 => .int
  | 13 => .int
  | 14 => .int
  | 15 => .int
  | 16 => .int
  | 17 => .object "GripEstates$Law"
  | _ => .object "GripEstates$Log"
theorem nmX9 : ∀ a, a < 19 → ∀ b, b < 19 → a ≠ b → (TX9 a).2.1 ≠ (TX9 b).2.1 := by decide +kernel
theorem tyX9_ok : ∀ k, k < 19 → parseFieldDescriptor (TX9 k).2.2.1 = some (tyX9 k) := by decide +kernel
abbrev cX9_init : ByteArray := prog_11_method_1_code
def yX9_init : MethodName := ⟨RX9, "<init>", "(LGripEstates$Law;)V"⟩
abbrev cX9_copyFrom : ByteArray := prog_11_method_2_code
def yX9_copyFrom : MethodName := ⟨RX9, "copyFrom", "(LGripEstates$Valley;)V"⟩
abbrev cX9_isPerson : ByteArray := prog_11_method_3_code
def yX9_isPerson : MethodName := ⟨RX9, "isPerson", "(I)Z"⟩
abbrev cX9_isThing : ByteArray := prog_11_method_4_code
def yX9_isThing : MethodName := ⟨RX9, "isThing", "(I)Z"⟩
abbrev cX9_isLiving : ByteArray := prog_11_method_5_code
def yX9_isLiving : MethodName := ⟨RX9, "isLiving", "(I)Z"⟩
abbrev cX9_isFree : ByteArray := prog_11_method_6_code
def yX9_isFree : MethodName := ⟨RX9, "isFree", "(I)Z"⟩
abbrev cX9_fits : ByteArray := prog_11_method_7_code
def yX9_fits : MethodName := ⟨RX9, "fits", "(II)Z"⟩
abbrev cX9_allThings : ByteArray := prog_11_method_8_code
def yX9_allThings : MethodName := ⟨RX9, "allThings", "()I"⟩
abbrev cX9_holding : ByteArray := prog_11_method_9_code
def yX9_holding : MethodName := ⟨RX9, "holding", "(I)I"⟩
abbrev cX9_ownedBy : ByteArray := prog_11_method_10_code
def yX9_ownedBy : MethodName := ⟨RX9, "ownedBy", "(I)I"⟩
abbrev cX9_clothOf : ByteArray := prog_11_method_11_code
def yX9_clothOf : MethodName := ⟨RX9, "clothOf", "(I)I"⟩
abbrev cX9_howManyIn : ByteArray := prog_11_method_12_code
def yX9_howManyIn : MethodName := ⟨RX9, "howManyIn", "(I)I"⟩
abbrev cX9_worthOf : ByteArray := prog_11_method_13_code
def yX9_worthOf : MethodName := ⟨RX9, "worthOf", "(I)I"⟩
abbrev cX9_crownWealth : ByteArray := prog_11_method_14_code
def yX9_crownWealth : MethodName := ⟨RX9, "crownWealth", "()I"⟩
abbrev cX9_successor : ByteArray := prog_11_method_15_code
def yX9_successor : MethodName := ⟨RX9, "successor", "(I)I"⟩
abbrev cX9_grips : ByteArray := prog_11_method_16_code
def yX9_grips : MethodName := ⟨RX9, "grips", "(I)I"⟩
abbrev cX9_fails : ByteArray := prog_11_method_17_code
def yX9_fails : MethodName := ⟨RX9, "fails", "(I)I"⟩
abbrev cX9_measure : ByteArray := prog_11_method_18_code
def yX9_measure : MethodName := ⟨RX9, "measure", "(II)I"⟩
abbrev cX9_addPerson : ByteArray := prog_11_method_19_code
def yX9_addPerson : MethodName := ⟨RX9, "addPerson", "(IIIZ)V"⟩
abbrev cX9_addThing : ByteArray := prog_11_method_20_code
def yX9_addThing : MethodName := ⟨RX9, "addThing", "(III)V"⟩
abbrev cX9_move : ByteArray := prog_11_method_21_code
def yX9_move : MethodName := ⟨RX9, "move", "(III)V"⟩
abbrev cX9_handOver : ByteArray := prog_11_method_22_code
def yX9_handOver : MethodName := ⟨RX9, "handOver", "(II)V"⟩
abbrev cX9_draw : ByteArray := prog_11_method_23_code
def yX9_draw : MethodName := ⟨RX9, "draw", "()I"⟩
abbrev cX9_pass : ByteArray := prog_11_method_24_code
def yX9_pass : MethodName := ⟨RX9, "pass", "(I)I"⟩
abbrev cX9_passLettingGo : ByteArray := prog_11_method_25_code
def yX9_passLettingGo : MethodName := ⟨RX9, "passLettingGo", "(I)V"⟩
abbrev cX9_letGo : ByteArray := prog_11_method_26_code
def yX9_letGo : MethodName := ⟨RX9, "letGo", "()V"⟩
abbrev cX9_feel : ByteArray := prog_11_method_27_code
def yX9_feel : MethodName := ⟨RX9, "feel", "()V"⟩
abbrev cX9_numbered : ByteArray := prog_11_method_28_code
def yX9_numbered : MethodName := ⟨RX9, "numbered", "(II)I"⟩
abbrev cX9_wakeOrDie : ByteArray := prog_11_method_29_code
def yX9_wakeOrDie : MethodName := ⟨RX9, "wakeOrDie", "()V"⟩
abbrev cX9_die : ByteArray := prog_11_method_30_code
def yX9_die : MethodName := ⟨RX9, "die", "(I)V"⟩
def RX10 : String := "GripEstates$ValleyReader"
def TX10 : u_T := fun k => match k with
  | _ => ("GripEstates$ValleyReader", "reader", "LGripEstates$Reader;", true)
def tyX10 : Nat → FieldType := fun k => match k with
  | _ => .object "GripEstates$Reader"
theorem nmX10 : ∀ a, a < 1 → ∀ b, b < 1 → a ≠ b → (TX10 a).2.1 ≠ (TX10 b).2.1 := by decide +kernel
theorem tyX10_ok : ∀ k, k < 1 → parseFieldDescriptor (TX10 k).2.2.1 = some (tyX10 k) := by decide +kernel
abbrev cX10_init : ByteArray := prog_12_method_1_code
def yX10_init : MethodName := ⟨RX10, "<init>", "(LGripEstates$Reader;)V"⟩
abbrev cX10_read : ByteArray := prog_12_method_2_code
def yX10_read : MethodName := ⟨RX10, "read", "(LGripEstates$Tape;LGripEstates$Valley;)I"⟩
abbrev cX10_readLine : ByteArray := prog_12_method_3_code
def yX10_readLine : MethodName := ⟨RX10, "readLine", "(LGripEstates$Valley;)Z"⟩
abbrev cX10_readSetting : ByteArray := prog_12_method_4_code
def yX10_readSetting : MethodName := ⟨RX10, "readSetting", "(LGripEstates$Valley;LGripEstates$Token;)Z"⟩
abbrev cX10_readPerson : ByteArray := prog_12_method_5_code
def yX10_readPerson : MethodName := ⟨RX10, "readPerson", "(LGripEstates$Valley;)Z"⟩
abbrev cX10_readHeir : ByteArray := prog_12_method_6_code
def yX10_readHeir : MethodName := ⟨RX10, "readHeir", "(LGripEstates$Valley;)Z"⟩
abbrev cX10_readThing : ByteArray := prog_12_method_7_code
def yX10_readThing : MethodName := ⟨RX10, "readThing", "(LGripEstates$Valley;)Z"⟩
abbrev cX10_readPlace : ByteArray := prog_12_method_8_code
def yX10_readPlace : MethodName := ⟨RX10, "readPlace", "(LGripEstates$Valley;I)Z"⟩
abbrev cX10_readCrownThing : ByteArray := prog_12_method_9_code
def yX10_readCrownThing : MethodName := ⟨RX10, "readCrownThing", "(LGripEstates$Valley;)Z"⟩
abbrev cX10_takeLiving : ByteArray := prog_12_method_10_code
def yX10_takeLiving : MethodName := ⟨RX10, "takeLiving", "(LGripEstates$Valley;)Z"⟩
def RX11 : String := "GripEstates"
def TX11 : u_T := fun k => match k with
  | 0 => ("GripEstates", "tape", "LGripEstates$Tape;", true)
  | 1 => ("GripEstates", "valleyReader", "LGripEstates$ValleyReader;", true)
  | 2 => ("GripEstates", "lawReader", "LGripEstates$LawReader;", true)
  | 3 => ("GripEstates", "told", "LGripEstates$Told;", true)
  | 4 => ("GripEstates", "matches", "LGripEstates$Matches;", true)
  | 5 => ("GripEstates", "now", "LGripEstates$Valley;", true)
  | 6 => ("GripEstates", "spare", "LGripEstates$Valley;", true)
  | 7 => ("GripEstates", "image", "LGripEstates$Valley;", true)
  | 8 => ("GripEstates", "past", "[LGripEstates$Valley;", true)
  | 9 => ("GripEstates", "imaged", "Z", false)
  | 10 => ("GripEstates", "remembered", "I", false)
  | 11 => ("GripEstates", "nextPast", "I", false)
  | _ => ("GripEstates", "fault", "I", false)
def tyX11 : Nat → FieldType := fun k => match k with
  | 0 => .object "GripEstates$Tape"
  | 1 => .object "GripEstates$ValleyReader"
  | 2 => .object "GripEstates$LawReader"
  | 3 => .object "GripEstates$Told"
  | 4 => .object "GripEstates$Matches"
  | 5 => .object "GripEstates$Valley"
  | 6 => .object "GripEstates$Valley"
  | 7 => .object "GripEstates$Valley"
  | 8 => .array (.object "GripEstates$Valley")
  | 9 => .boolean
  | 10 => .int
  | 11 => .int
  | _ => .int
theorem nmX11 : ∀ a, a < 13 → ∀ b, b < 13 → a ≠ b → (TX11 a).2.1 ≠ (TX11 b).2.1 := by decide +kernel
theorem tyX11_ok : ∀ k, k < 13 → parseFieldDescriptor (TX11 k).2.2.1 = some (tyX11 k) := by decide +kernel
abbrev cX11_init : ByteArray := prog_1_method_1_code
def yX11_init : MethodName := ⟨RX11, "<init>", "()V"⟩
abbrev cX11_feed : ByteArray := prog_1_method_2_code
def yX11_feed : MethodName := ⟨RX11, "feed", "(IIIII)I"⟩
abbrev cX11_end : ByteArray := prog_1_method_3_code
def yX11_end : MethodName := ⟨RX11, "end", "(I)Z"⟩
abbrev cX11_valley : ByteArray := prog_1_method_4_code
def yX11_valley : MethodName := ⟨RX11, "valley", "()I"⟩
abbrev cX11_law : ByteArray := prog_1_method_5_code
def yX11_law : MethodName := ⟨RX11, "law", "()I"⟩
abbrev cX11_fault : ByteArray := prog_1_method_6_code
def yX11_fault : MethodName := ⟨RX11, "fault", "()I"⟩
abbrev cX11_person : ByteArray := prog_1_method_7_code
def yX11_person : MethodName := ⟨RX11, "person", "(II)I"⟩
abbrev cX11_thing : ByteArray := prog_1_method_8_code
def yX11_thing : MethodName := ⟨RX11, "thing", "(II)I"⟩
abbrev cX11_shuts : ByteArray := prog_1_method_9_code
def yX11_shuts : MethodName := ⟨RX11, "shuts", "(II)I"⟩
abbrev cX11_nights : ByteArray := prog_1_method_10_code
def yX11_nights : MethodName := ⟨RX11, "nights", "(I)I"⟩
abbrev cX11_lay : ByteArray := prog_1_method_11_code
def yX11_lay : MethodName := ⟨RX11, "lay", "(II)I"⟩
abbrev cX11_clear : ByteArray := prog_1_method_12_code
def yX11_clear : MethodName := ⟨RX11, "clear", "(I)I"⟩
abbrev cX11_wake : ByteArray := prog_1_method_13_code
def yX11_wake : MethodName := ⟨RX11, "wake", "(I)I"⟩
abbrev cX11_open : ByteArray := prog_1_method_14_code
def yX11_open : MethodName := ⟨RX11, "open", "(I)I"⟩
abbrev cX11_swap : ByteArray := prog_1_method_15_code
def yX11_swap : MethodName := ⟨RX11, "swap", "(II)I"⟩
abbrev cX11_heir : ByteArray := prog_1_method_16_code
def yX11_heir : MethodName := ⟨RX11, "heir", "(II)I"⟩
abbrev cX11_tie : ByteArray := prog_1_method_17_code
def yX11_tie : MethodName := ⟨RX11, "tie", "(IZ)Z"⟩
abbrev cX11_born : ByteArray := prog_1_method_18_code
def yX11_born : MethodName := ⟨RX11, "born", "(I)I"⟩
abbrev cX11_give : ByteArray := prog_1_method_19_code
def yX11_give : MethodName := ⟨RX11, "give", "(II)I"⟩
abbrev cX11_hoard : ByteArray := prog_1_method_20_code
def yX11_hoard : MethodName := ⟨RX11, "hoard", "(IIZ)I"⟩
abbrev cX11_round : ByteArray := prog_1_method_21_code
def yX11_round : MethodName := ⟨RX11, "round", "()I"⟩
abbrev cX11_escheat : ByteArray := prog_1_method_22_code
def yX11_escheat : MethodName := ⟨RX11, "escheat", "()I"⟩
abbrev cX11_watch : ByteArray := prog_1_method_23_code
def yX11_watch : MethodName := ⟨RX11, "watch", "()I"⟩
abbrev cX11_put : ByteArray := prog_1_method_24_code
def yX11_put : MethodName := ⟨RX11, "put", "(I)I"⟩
abbrev cX11_held : ByteArray := prog_1_method_25_code
def yX11_held : MethodName := ⟨RX11, "held", "()I"⟩
abbrev cX11_likely : ByteArray := prog_1_method_26_code
def yX11_likely : MethodName := ⟨RX11, "likely", "()I"⟩
abbrev cX11_ask : ByteArray := prog_1_method_27_code
def yX11_ask : MethodName := ⟨RX11, "ask", "()I"⟩
abbrev cX11_strong : ByteArray := prog_1_method_28_code
def yX11_strong : MethodName := ⟨RX11, "strong", "(Z)I"⟩
abbrev cX11_test : ByteArray := prog_1_method_29_code
def yX11_test : MethodName := ⟨RX11, "test", "()I"⟩
abbrev cX11_fingers : ByteArray := prog_1_method_30_code
def yX11_fingers : MethodName := ⟨RX11, "fingers", "(I)Z"⟩
abbrev cX11_opens : ByteArray := prog_1_method_31_code
def yX11_opens : MethodName := ⟨RX11, "opens", "(I)I"⟩
abbrev cX11_pairs : ByteArray := prog_1_method_32_code
def yX11_pairs : MethodName := ⟨RX11, "pairs", "(I)I"⟩
abbrev cX11_rests : ByteArray := prog_1_method_33_code
def yX11_rests : MethodName := ⟨RX11, "rests", "(I)I"⟩
abbrev cX11_odds : ByteArray := prog_1_method_34_code
def yX11_odds : MethodName := ⟨RX11, "odds", "(I)I"⟩
abbrev cX11_most : ByteArray := prog_1_method_35_code
def yX11_most : MethodName := ⟨RX11, "most", "(I)I"⟩
abbrev cX11_living : ByteArray := prog_1_method_36_code
def yX11_living : MethodName := ⟨RX11, "living", "()I"⟩
abbrev cX11_idle : ByteArray := prog_1_method_37_code
def yX11_idle : MethodName := ⟨RX11, "idle", "()I"⟩
abbrev cX11_crown : ByteArray := prog_1_method_38_code
def yX11_crown : MethodName := ⟨RX11, "crown", "()I"⟩
abbrev cX11_wealth : ByteArray := prog_1_method_39_code
def yX11_wealth : MethodName := ⟨RX11, "wealth", "()I"⟩
abbrev cX11_twins : ByteArray := prog_1_method_40_code
def yX11_twins : MethodName := ⟨RX11, "twins", "()I"⟩
abbrev cX11_ahead : ByteArray := prog_1_method_41_code
def yX11_ahead : MethodName := ⟨RX11, "ahead", "(II)I"⟩
abbrev cX11_trial : ByteArray := prog_1_method_42_code
def yX11_trial : MethodName := ⟨RX11, "trial", "(IZ)I"⟩
abbrev cX11_span : ByteArray := prog_1_method_43_code
def yX11_span : MethodName := ⟨RX11, "span", "(IZ)I"⟩
abbrev cX11_led : ByteArray := prog_1_method_44_code
def yX11_led : MethodName := ⟨RX11, "led", "(IZ)I"⟩
abbrev cX11_log : ByteArray := prog_1_method_45_code
def yX11_log : MethodName := ⟨RX11, "log", "(II)I"⟩
abbrev cX11_seed : ByteArray := prog_1_method_46_code
def yX11_seed : MethodName := ⟨RX11, "seed", "(I)I"⟩
abbrev cX11_undo : ByteArray := prog_1_method_47_code
def yX11_undo : MethodName := ⟨RX11, "undo", "()Z"⟩
abbrev cX11_image : ByteArray := prog_1_method_48_code
def yX11_image : MethodName := ⟨RX11, "image", "()V"⟩
abbrev cX11_back : ByteArray := prog_1_method_49_code
def yX11_back : MethodName := ⟨RX11, "back", "()Z"⟩
abbrev cX11_count : ByteArray := prog_1_method_50_code
def yX11_count : MethodName := ⟨RX11, "count", "(I)I"⟩
abbrev cX11_remember : ByteArray := prog_1_method_51_code
def yX11_remember : MethodName := ⟨RX11, "remember", "()V"⟩
abbrev cX11_forgetActs : ByteArray := prog_1_method_52_code
def yX11_forgetActs : MethodName := ⟨RX11, "forgetActs", "()V"⟩
abbrev cX11_needPerson : ByteArray := prog_1_method_53_code
def yX11_needPerson : MethodName := ⟨RX11, "needPerson", "(I)V"⟩
abbrev cX11_needThing : ByteArray := prog_1_method_54_code
def yX11_needThing : MethodName := ⟨RX11, "needThing", "(I)V"⟩
abbrev cX11_needNumber : ByteArray := prog_1_method_55_code
def yX11_needNumber : MethodName := ⟨RX11, "needNumber", "(Z)V"⟩
abbrev cX11_needState : ByteArray := prog_1_method_56_code
def yX11_needState : MethodName := ⟨RX11, "needState", "(Z)V"⟩
def RX12 : String := "GripEstatesModel"
def TX12 : u_T := fun k => match k with
  | 0 => ("GripEstatesModel", "thrown", "I", false)
  | 1 => ("GripEstatesModel", "world", "[I", true)
  | 2 => ("GripEstatesModel", "image", "[I", true)
  | 3 => ("GripEstatesModel", "earlier", "[I", true)
  | 4 => ("GripEstatesModel", "trial", "[I", true)
  | 5 => ("GripEstatesModel", "acts", "[I", true)
  | 6 => ("GripEstatesModel", "hasImage", "Z", false)
  | 7 => ("GripEstatesModel", "remembered", "I", false)
  | 8 => ("GripEstatesModel", "tape", "[B", true)
  | 9 => ("GripEstatesModel", "taped", "I", false)
  | 10 => ("GripEstatesModel", "point", "I", false)
  | 11 => ("GripEstatesModel", "end", "I", false)
  | 12 => ("GripEstatesModel", "begin", "I", false)
  | 13 => ("GripEstatesModel", "deep", "I", false)
  | 14 => ("GripEstatesModel", "faultAt", "I", false)
  | 15 => ("GripEstatesModel", "five", "[I", true)
  | 16 => ("GripEstatesModel", "codes", "I", false)
  | 17 => ("GripEstatesModel", "value", "[I", true)
  | 18 => ("GripEstatesModel", "atFirst", "[I", true)
  | 19 => ("GripEstatesModel", "inTheEnd", "[I", true)
  | 20 => ("GripEstatesModel", "pointsAt", "[I", true)
  | 21 => ("GripEstatesModel", "putWorth", "[I", true)
  | 22 => ("GripEstatesModel", "strengths", "[I", true)
  | 23 => ("GripEstatesModel", "wins", "[Z", true)
  | _ => ("GripEstatesModel", "paired", "[I", true)
def tyX12 : Nat → FieldType := fun k => match k with
  | 0 => .int
  | 1 => .array .int
  | 2 => .array .int
  | 3 => .array .int
  | 4 => .array .int
  | 5 => .array .int
  | 6 => .boolean
  | 7 => .int
  | 8 => .array .byte
  | 9 => .int
  | 10 => .int
  | 11 => .int
  | 12 => .int
  | 13 => .int
  | 14 => .int
  | 15 => .array .int
  | 16 => .int
  | 17 => .array .int
  | 18 => .array .int
  | 19 => .array .int
  | 20 => .array .int
  | 21 => .array .int
  | 22 => .array .int
  | 23 => .array .boolean
  | _ => .array .int
theorem nmX12 : ∀ a, a < 25 → ∀ b, b < 25 → a ≠ b → (TX12 a).2.1 ≠ (TX12 b).2.1 := by decide +kernel
theorem tyX12_ok : ∀ k, k < 25 → parseFieldDescriptor (TX12 k).2.2.1 = some (tyX12 k) := by decide +kernel
abbrev cX12_thrown : ByteArray := prog_14_method_1_code
def yX12_thrown : MethodName := ⟨RX12, "thrown", "()I"⟩
abbrev cX12_throwsIf : ByteArray := prog_14_method_2_code
def yX12_throwsIf : MethodName := ⟨RX12, "throwsIf", "(ZI)Z"⟩
abbrev cX12_in : ByteArray := prog_14_method_3_code
def yX12_in : MethodName := ⟨RX12, "in", "(III)Z"⟩
abbrev cX12_has : ByteArray := prog_14_method_4_code
def yX12_has : MethodName := ⟨RX12, "has", "(II)Z"⟩
abbrev cX12_init : ByteArray := prog_14_method_5_code
def yX12_init : MethodName := ⟨RX12, "<init>", "()V"⟩
abbrev cX12_image : ByteArray := prog_14_method_6_code
def yX12_image : MethodName := ⟨RX12, "image", "()V"⟩
abbrev cX12_back : ByteArray := prog_14_method_7_code
def yX12_back : MethodName := ⟨RX12, "back", "()Z"⟩
abbrev cX12_remembers : ByteArray := prog_14_method_8_code
def yX12_remembers : MethodName := ⟨RX12, "remembers", "()V"⟩
abbrev cX12_undo : ByteArray := prog_14_method_9_code
def yX12_undo : MethodName := ⟨RX12, "undo", "()Z"⟩
abbrev cX12_keepsAll : ByteArray := prog_14_method_10_code
def yX12_keepsAll : MethodName := ⟨RX12, "keepsAll", "()V"⟩
abbrev cX12_bringsBack : ByteArray := prog_14_method_11_code
def yX12_bringsBack : MethodName := ⟨RX12, "bringsBack", "()V"⟩
abbrev cX12_people : ByteArray := prog_14_method_12_code
def yX12_people : MethodName := ⟨RX12, "people", "()I"⟩
abbrev cX12_things : ByteArray := prog_14_method_13_code
def yX12_things : MethodName := ⟨RX12, "things", "()I"⟩
abbrev cX12_personAt : ByteArray := prog_14_method_14_code
def yX12_personAt : MethodName := ⟨RX12, "personAt", "(II)I"⟩
abbrev cX12_of : ByteArray := prog_14_method_15_code
def yX12_of : MethodName := ⟨RX12, "of", "(II)I"⟩
abbrev cX12_thingAt : ByteArray := prog_14_method_16_code
def yX12_thingAt : MethodName := ⟨RX12, "thingAt", "(II)I"⟩
abbrev cX12_ofThing : ByteArray := prog_14_method_17_code
def yX12_ofThing : MethodName := ⟨RX12, "ofThing", "(II)I"⟩
abbrev cX12_noPerson : ByteArray := prog_14_method_18_code
def yX12_noPerson : MethodName := ⟨RX12, "noPerson", "(I)Z"⟩
abbrev cX12_noThing : ByteArray := prog_14_method_19_code
def yX12_noThing : MethodName := ⟨RX12, "noThing", "(I)Z"⟩
abbrev cX12_lives : ByteArray := prog_14_method_20_code
def yX12_lives : MethodName := ⟨RX12, "lives", "(I)Z"⟩
abbrev cX12_allLiving : ByteArray := prog_14_method_21_code
def yX12_allLiving : MethodName := ⟨RX12, "allLiving", "()I"⟩
abbrev cX12_isWith : ByteArray := prog_14_method_22_code
def yX12_isWith : MethodName := ⟨RX12, "isWith", "(III)Z"⟩
abbrev cX12_heldBy : ByteArray := prog_14_method_23_code
def yX12_heldBy : MethodName := ⟨RX12, "heldBy", "(I)I"⟩
abbrev cX12_onClothOf : ByteArray := prog_14_method_24_code
def yX12_onClothOf : MethodName := ⟨RX12, "onClothOf", "(I)I"⟩
abbrev cX12_ownedBy : ByteArray := prog_14_method_25_code
def yX12_ownedBy : MethodName := ⟨RX12, "ownedBy", "(I)I"⟩
abbrev cX12_worthOf : ByteArray := prog_14_method_26_code
def yX12_worthOf : MethodName := ⟨RX12, "worthOf", "(I)I"⟩
abbrev cX12_lies : ByteArray := prog_14_method_27_code
def yX12_lies : MethodName := ⟨RX12, "lies", "(III)V"⟩
abbrev cX12_drawn : ByteArray := prog_14_method_28_code
def yX12_drawn : MethodName := ⟨RX12, "drawn", "(I)I"⟩
abbrev cX12_feed : ByteArray := prog_14_method_29_code
def yX12_feed : MethodName := ⟨RX12, "feed", "(IIIII)I"⟩
abbrev cX12_end : ByteArray := prog_14_method_30_code
def yX12_end : MethodName := ⟨RX12, "end", "(I)Z"⟩
abbrev cX12_isAt : ByteArray := prog_14_method_31_code
def yX12_isAt : MethodName := ⟨RX12, "isAt", "(II)Z"⟩
abbrev cX12_blanks : ByteArray := prog_14_method_32_code
def yX12_blanks : MethodName := ⟨RX12, "blanks", "()V"⟩
abbrev cX12_letters : ByteArray := prog_14_method_33_code
def yX12_letters : MethodName := ⟨RX12, "letters", "()V"⟩
abbrev cX12_isWord : ByteArray := prog_14_method_34_code
def yX12_isWord : MethodName := ⟨RX12, "isWord", "(Ljava/lang/String;)Z"⟩
abbrev cX12_passes : ByteArray := prog_14_method_35_code
def yX12_passes : MethodName := ⟨RX12, "passes", "(Ljava/lang/String;)Z"⟩
abbrev cX12_sign : ByteArray := prog_14_method_36_code
def yX12_sign : MethodName := ⟨RX12, "sign", "(I)Z"⟩
abbrev cX12_number : ByteArray := prog_14_method_37_code
def yX12_number : MethodName := ⟨RX12, "number", "(II)I"⟩
abbrev cX12_behind : ByteArray := prog_14_method_38_code
def yX12_behind : MethodName := ⟨RX12, "behind", "(Ljava/lang/String;II)I"⟩
abbrev cX12_livingNumber : ByteArray := prog_14_method_39_code
def yX12_livingNumber : MethodName := ⟨RX12, "livingNumber", "()I"⟩
abbrev cX12_fault : ByteArray := prog_14_method_40_code
def yX12_fault : MethodName := ⟨RX12, "fault", "()I"⟩
abbrev cX12_uses : ByteArray := prog_14_method_41_code
def yX12_uses : MethodName := ⟨RX12, "uses", "()V"⟩
abbrev cX12_readNumber : ByteArray := prog_14_method_42_code
def yX12_readNumber : MethodName := ⟨RX12, "readNumber", "(III)Z"⟩
abbrev cX12_isBorn : ByteArray := prog_14_method_43_code
def yX12_isBorn : MethodName := ⟨RX12, "isBorn", "(II)I"⟩
abbrev cX12_readPerson : ByteArray := prog_14_method_44_code
def yX12_readPerson : MethodName := ⟨RX12, "readPerson", "()Z"⟩
abbrev cX12_readHeir : ByteArray := prog_14_method_45_code
def yX12_readHeir : MethodName := ⟨RX12, "readHeir", "()Z"⟩
abbrev cX12_isThing : ByteArray := prog_14_method_46_code
def yX12_isThing : MethodName := ⟨RX12, "isThing", "(III)V"⟩
abbrev cX12_readWhere : ByteArray := prog_14_method_47_code
def yX12_readWhere : MethodName := ⟨RX12, "readWhere", "()Z"⟩
abbrev cX12_readThing : ByteArray := prog_14_method_48_code
def yX12_readThing : MethodName := ⟨RX12, "readThing", "(Z)Z"⟩
abbrev cX12_readValleyLine : ByteArray := prog_14_method_49_code
def yX12_readValleyLine : MethodName := ⟨RX12, "readValleyLine", "()Z"⟩
abbrev cX12_emits : ByteArray := prog_14_method_50_code
def yX12_emits : MethodName := ⟨RX12, "emits", "(II)V"⟩
abbrev cX12_wordOfPart : ByteArray := prog_14_method_51_code
def yX12_wordOfPart : MethodName := ⟨RX12, "wordOfPart", "()I"⟩
abbrev cX12_readPart : ByteArray := prog_14_method_52_code
def yX12_readPart : MethodName := ⟨RX12, "readPart", "()Z"⟩
abbrev cX12_readSum : ByteArray := prog_14_method_53_code
def yX12_readSum : MethodName := ⟨RX12, "readSum", "()Z"⟩
abbrev cX12_readTag : ByteArray := prog_14_method_54_code
def yX12_readTag : MethodName := ⟨RX12, "readTag", "()Z"⟩
abbrev cX12_readAtom : ByteArray := prog_14_method_55_code
def yX12_readAtom : MethodName := ⟨RX12, "readAtom", "()Z"⟩
abbrev cX12_readAllOf : ByteArray := prog_14_method_56_code
def yX12_readAllOf : MethodName := ⟨RX12, "readAllOf", "()Z"⟩
abbrev cX12_readCond : ByteArray := prog_14_method_57_code
def yX12_readCond : MethodName := ⟨RX12, "readCond", "()Z"⟩
abbrev cX12_readLawLine : ByteArray := prog_14_method_58_code
def yX12_readLawLine : MethodName := ⟨RX12, "readLawLine", "(I)Z"⟩
abbrev cX12_readLine : ByteArray := prog_14_method_59_code
def yX12_readLine : MethodName := ⟨RX12, "readLine", "(ZI)Z"⟩
abbrev cX12_readAll : ByteArray := prog_14_method_60_code
def yX12_readAll : MethodName := ⟨RX12, "readAll", "(Z)I"⟩
abbrev cX12_valley : ByteArray := prog_14_method_61_code
def yX12_valley : MethodName := ⟨RX12, "valley", "()I"⟩
abbrev cX12_law : ByteArray := prog_14_method_62_code
def yX12_law : MethodName := ⟨RX12, "law", "()I"⟩
abbrev cX12_successorOf : ByteArray := prog_14_method_63_code
def yX12_successorOf : MethodName := ⟨RX12, "successorOf", "(I)I"⟩
abbrev cX12_lineOf : ByteArray := prog_14_method_64_code
def yX12_lineOf : MethodName := ⟨RX12, "lineOf", "(I)I"⟩
abbrev cX12_factOf : ByteArray := prog_14_method_65_code
def yX12_factOf : MethodName := ⟨RX12, "factOf", "(III)I"⟩
abbrev cX12_holdsLine : ByteArray := prog_14_method_66_code
def yX12_holdsLine : MethodName := ⟨RX12, "holdsLine", "(II)Z"⟩
abbrev cX12_sumOf : ByteArray := prog_14_method_67_code
def yX12_sumOf : MethodName := ⟨RX12, "sumOf", "(II)I"⟩
abbrev cX12_gripsOf : ByteArray := prog_14_method_68_code
def yX12_gripsOf : MethodName := ⟨RX12, "gripsOf", "(I)I"⟩
abbrev cX12_failsOf : ByteArray := prog_14_method_69_code
def yX12_failsOf : MethodName := ⟨RX12, "failsOf", "(I)I"⟩
abbrev cX12_isTold : ByteArray := prog_14_method_70_code
def yX12_isTold : MethodName := ⟨RX12, "isTold", "(III)V"⟩
abbrev cX12_allLetGo : ByteArray := prog_14_method_71_code
def yX12_allLetGo : MethodName := ⟨RX12, "allLetGo", "()V"⟩
abbrev cX12_nthOf : ByteArray := prog_14_method_72_code
def yX12_nthOf : MethodName := ⟨RX12, "nthOf", "(II)I"⟩
abbrev cX12_allFeel : ByteArray := prog_14_method_73_code
def yX12_allFeel : MethodName := ⟨RX12, "allFeel", "()V"⟩
abbrev cX12_dies : ByteArray := prog_14_method_74_code
def yX12_dies : MethodName := ⟨RX12, "dies", "(I)V"⟩
abbrev cX12_someDie : ByteArray := prog_14_method_75_code
def yX12_someDie : MethodName := ⟨RX12, "someDie", "()I"⟩
abbrev cX12_oneNight : ByteArray := prog_14_method_76_code
def yX12_oneNight : MethodName := ⟨RX12, "oneNight", "(Z)I"⟩
abbrev cX12_goesOn : ByteArray := prog_14_method_77_code
def yX12_goesOn : MethodName := ⟨RX12, "goesOn", "(IZ)I"⟩
abbrev cX12_estateOf : ByteArray := prog_14_method_78_code
def yX12_estateOf : MethodName := ⟨RX12, "estateOf", "(I)I"⟩
abbrev cX12_lostOf : ByteArray := prog_14_method_79_code
def yX12_lostOf : MethodName := ⟨RX12, "lostOf", "(I)I"⟩
abbrev cX12_hangsOn : ByteArray := prog_14_method_80_code
def yX12_hangsOn : MethodName := ⟨RX12, "hangsOn", "(I)I"⟩
abbrev cX12_canHold : ByteArray := prog_14_method_81_code
def yX12_canHold : MethodName := ⟨RX12, "canHold", "(II)Z"⟩
abbrev cX12_hopedOf : ByteArray := prog_14_method_82_code
def yX12_hopedOf : MethodName := ⟨RX12, "hopedOf", "(I)I"⟩
abbrev cX12_likesMore : ByteArray := prog_14_method_83_code
def yX12_likesMore : MethodName := ⟨RX12, "likesMore", "(III)Z"⟩
abbrev cX12_comeRound : ByteArray := prog_14_method_84_code
def yX12_comeRound : MethodName := ⟨RX12, "comeRound", "(I)I"⟩
abbrev cX12_coreOf : ByteArray := prog_14_method_85_code
def yX12_coreOf : MethodName := ⟨RX12, "coreOf", "(I)I"⟩
abbrev cX12_worthOfAll : ByteArray := prog_14_method_86_code
def yX12_worthOfAll : MethodName := ⟨RX12, "worthOfAll", "()I"⟩
abbrev cX12_person : ByteArray := prog_14_method_87_code
def yX12_person : MethodName := ⟨RX12, "person", "(II)I"⟩
abbrev cX12_thing : ByteArray := prog_14_method_88_code
def yX12_thing : MethodName := ⟨RX12, "thing", "(II)I"⟩
abbrev cX12_noBoth : ByteArray := prog_14_method_89_code
def yX12_noBoth : MethodName := ⟨RX12, "noBoth", "(II)Z"⟩
abbrev cX12_shuts : ByteArray := prog_14_method_90_code
def yX12_shuts : MethodName := ⟨RX12, "shuts", "(II)I"⟩
abbrev cX12_nights : ByteArray := prog_14_method_91_code
def yX12_nights : MethodName := ⟨RX12, "nights", "(I)I"⟩
abbrev cX12_isFree : ByteArray := prog_14_method_92_code
def yX12_isFree : MethodName := ⟨RX12, "isFree", "(I)Z"⟩
abbrev cX12_lay : ByteArray := prog_14_method_93_code
def yX12_lay : MethodName := ⟨RX12, "lay", "(II)I"⟩
abbrev cX12_isPutBy : ByteArray := prog_14_method_94_code
def yX12_isPutBy : MethodName := ⟨RX12, "isPutBy", "(I)I"⟩
abbrev cX12_clear : ByteArray := prog_14_method_95_code
def yX12_clear : MethodName := ⟨RX12, "clear", "(I)I"⟩
abbrev cX12_wake : ByteArray := prog_14_method_96_code
def yX12_wake : MethodName := ⟨RX12, "wake", "(I)I"⟩
abbrev cX12_open : ByteArray := prog_14_method_97_code
def yX12_open : MethodName := ⟨RX12, "open", "(I)I"⟩
abbrev cX12_holds : ByteArray := prog_14_method_98_code
def yX12_holds : MethodName := ⟨RX12, "holds", "(II)V"⟩
abbrev cX12_swap : ByteArray := prog_14_method_99_code
def yX12_swap : MethodName := ⟨RX12, "swap", "(II)I"⟩
abbrev cX12_isNow : ByteArray := prog_14_method_100_code
def yX12_isNow : MethodName := ⟨RX12, "isNow", "(II)I"⟩
abbrev cX12_heir : ByteArray := prog_14_method_101_code
def yX12_heir : MethodName := ⟨RX12, "heir", "(II)I"⟩
abbrev cX12_tie : ByteArray := prog_14_method_102_code
def yX12_tie : MethodName := ⟨RX12, "tie", "(IZ)Z"⟩
abbrev cX12_born : ByteArray := prog_14_method_103_code
def yX12_born : MethodName := ⟨RX12, "born", "(I)I"⟩
abbrev cX12_give : ByteArray := prog_14_method_104_code
def yX12_give : MethodName := ⟨RX12, "give", "(II)I"⟩
abbrev cX12_sizeOf : ByteArray := prog_14_method_105_code
def yX12_sizeOf : MethodName := ⟨RX12, "sizeOf", "(I)I"⟩
abbrev cX12_isBetter : ByteArray := prog_14_method_106_code
def yX12_isBetter : MethodName := ⟨RX12, "isBetter", "(II)Z"⟩
abbrev cX12_hoard : ByteArray := prog_14_method_107_code
def yX12_hoard : MethodName := ⟨RX12, "hoard", "(IIZ)I"⟩
abbrev cX12_round : ByteArray := prog_14_method_108_code
def yX12_round : MethodName := ⟨RX12, "round", "()I"⟩
abbrev cX12_escheat : ByteArray := prog_14_method_109_code
def yX12_escheat : MethodName := ⟨RX12, "escheat", "()I"⟩
abbrev cX12_areWatched : ByteArray := prog_14_method_110_code
def yX12_areWatched : MethodName := ⟨RX12, "areWatched", "(I)Z"⟩
abbrev cX12_watch : ByteArray := prog_14_method_111_code
def yX12_watch : MethodName := ⟨RX12, "watch", "()I"⟩
abbrev cX12_putAt : ByteArray := prog_14_method_112_code
def yX12_putAt : MethodName := ⟨RX12, "putAt", "(II)I"⟩
abbrev cX12_putIf : ByteArray := prog_14_method_113_code
def yX12_putIf : MethodName := ⟨RX12, "putIf", "(III)I"⟩
abbrev cX12_put : ByteArray := prog_14_method_114_code
def yX12_put : MethodName := ⟨RX12, "put", "(I)I"⟩
abbrev cX12_isHeld : ByteArray := prog_14_method_115_code
def yX12_isHeld : MethodName := ⟨RX12, "isHeld", "()Z"⟩
abbrev cX12_whatOf : ByteArray := prog_14_method_116_code
def yX12_whatOf : MethodName := ⟨RX12, "whatOf", "(II)I"⟩
abbrev cX12_wrongRows : ByteArray := prog_14_method_117_code
def yX12_wrongRows : MethodName := ⟨RX12, "wrongRows", "(I)I"⟩
abbrev cX12_thatFit : ByteArray := prog_14_method_118_code
def yX12_thatFit : MethodName := ⟨RX12, "thatFit", "()I"⟩
abbrev cX12_held : ByteArray := prog_14_method_119_code
def yX12_held : MethodName := ⟨RX12, "held", "()I"⟩
abbrev cX12_likely : ByteArray := prog_14_method_120_code
def yX12_likely : MethodName := ⟨RX12, "likely", "()I"⟩
abbrev cX12_partOf : ByteArray := prog_14_method_121_code
def yX12_partOf : MethodName := ⟨RX12, "partOf", "(II)I"⟩
abbrev cX12_ask : ByteArray := prog_14_method_122_code
def yX12_ask : MethodName := ⟨RX12, "ask", "()I"⟩
abbrev cX12_isStrong : ByteArray := prog_14_method_123_code
def yX12_isStrong : MethodName := ⟨RX12, "isStrong", "()Z"⟩
abbrev cX12_wrongTries : ByteArray := prog_14_method_124_code
def yX12_wrongTries : MethodName := ⟨RX12, "wrongTries", "(I)I"⟩
abbrev cX12_manyStrong : ByteArray := prog_14_method_125_code
def yX12_manyStrong : MethodName := ⟨RX12, "manyStrong", "(I)I"⟩
abbrev cX12_strong : ByteArray := prog_14_method_126_code
def yX12_strong : MethodName := ⟨RX12, "strong", "(Z)I"⟩
abbrev cX12_test : ByteArray := prog_14_method_127_code
def yX12_test : MethodName := ⟨RX12, "test", "()I"⟩
abbrev cX12_isFingers : ByteArray := prog_14_method_128_code
def yX12_isFingers : MethodName := ⟨RX12, "isFingers", "(I)Z"⟩
abbrev cX12_laysWins : ByteArray := prog_14_method_129_code
def yX12_laysWins : MethodName := ⟨RX12, "laysWins", "()V"⟩
abbrev cX12_fingers : ByteArray := prog_14_method_130_code
def yX12_fingers : MethodName := ⟨RX12, "fingers", "(I)Z"⟩
abbrev cX12_opens : ByteArray := prog_14_method_131_code
def yX12_opens : MethodName := ⟨RX12, "opens", "(I)I"⟩
abbrev cX12_firstOf : ByteArray := prog_14_method_132_code
def yX12_firstOf : MethodName := ⟨RX12, "firstOf", "(I)I"⟩
abbrev cX12_canPair : ByteArray := prog_14_method_133_code
def yX12_canPair : MethodName := ⟨RX12, "canPair", "(II)Z"⟩
abbrev cX12_pairedBy : ByteArray := prog_14_method_134_code
def yX12_pairedBy : MethodName := ⟨RX12, "pairedBy", "(II)I"⟩
abbrev cX12_laysPairs : ByteArray := prog_14_method_135_code
def yX12_laysPairs : MethodName := ⟨RX12, "laysPairs", "()V"⟩
abbrev cX12_pairs : ByteArray := prog_14_method_136_code
def yX12_pairs : MethodName := ⟨RX12, "pairs", "(I)I"⟩
abbrev cX12_heirHas : ByteArray := prog_14_method_137_code
def yX12_heirHas : MethodName := ⟨RX12, "heirHas", "(III)I"⟩
abbrev cX12_nurseHas : ByteArray := prog_14_method_138_code
def yX12_nurseHas : MethodName := ⟨RX12, "nurseHas", "(III)I"⟩
abbrev cX12_rests : ByteArray := prog_14_method_139_code
def yX12_rests : MethodName := ⟨RX12, "rests", "(I)I"⟩
abbrev cX12_odds : ByteArray := prog_14_method_140_code
def yX12_odds : MethodName := ⟨RX12, "odds", "(I)I"⟩
abbrev cX12_amountOf : ByteArray := prog_14_method_141_code
def yX12_amountOf : MethodName := ⟨RX12, "amountOf", "(II)I"⟩
abbrev cX12_most : ByteArray := prog_14_method_142_code
def yX12_most : MethodName := ⟨RX12, "most", "(I)I"⟩
abbrev cX12_living : ByteArray := prog_14_method_143_code
def yX12_living : MethodName := ⟨RX12, "living", "()I"⟩
abbrev cX12_idle : ByteArray := prog_14_method_144_code
def yX12_idle : MethodName := ⟨RX12, "idle", "()I"⟩
abbrev cX12_crown : ByteArray := prog_14_method_145_code
def yX12_crown : MethodName := ⟨RX12, "crown", "()I"⟩
abbrev cX12_wealth : ByteArray := prog_14_method_146_code
def yX12_wealth : MethodName := ⟨RX12, "wealth", "()I"⟩
abbrev cX12_twins : ByteArray := prog_14_method_147_code
def yX12_twins : MethodName := ⟨RX12, "twins", "()I"⟩
abbrev cX12_noNights : ByteArray := prog_14_method_148_code
def yX12_noNights : MethodName := ⟨RX12, "noNights", "(I)Z"⟩
abbrev cX12_ahead : ByteArray := prog_14_method_149_code
def yX12_ahead : MethodName := ⟨RX12, "ahead", "(II)I"⟩
abbrev cX12_trial : ByteArray := prog_14_method_150_code
def yX12_trial : MethodName := ⟨RX12, "trial", "(IZ)I"⟩
abbrev cX12_span : ByteArray := prog_14_method_151_code
def yX12_span : MethodName := ⟨RX12, "span", "(IZ)I"⟩
abbrev cX12_ofLog : ByteArray := prog_14_method_152_code
def yX12_ofLog : MethodName := ⟨RX12, "ofLog", "(II)I"⟩
abbrev cX12_led : ByteArray := prog_14_method_153_code
def yX12_led : MethodName := ⟨RX12, "led", "(IZ)I"⟩
abbrev cX12_log : ByteArray := prog_14_method_154_code
def yX12_log : MethodName := ⟨RX12, "log", "(II)I"⟩
abbrev cX12_seed : ByteArray := prog_14_method_155_code
def yX12_seed : MethodName := ⟨RX12, "seed", "(I)I"⟩
abbrev cX12_manyIn : ByteArray := prog_14_method_156_code
def yX12_manyIn : MethodName := ⟨RX12, "manyIn", "(I)I"⟩
abbrev cX12_count : ByteArray := prog_14_method_157_code
def yX12_count : MethodName := ⟨RX12, "count", "(I)I"⟩
def RJ6 : String := "java/lang/Integer"
abbrev cJ6_numberOfTrailingZeros_0f7a4 : ByteArray := prog_24_method_48_code
def yJ6_numberOfTrailingZeros_0f7a4 : MethodName := ⟨RJ6, "numberOfTrailingZeros", "(I)I"⟩
abbrev cJ6_bitCount_0f7a4 : ByteArray := prog_24_method_49_code
def yJ6_bitCount_0f7a4 : MethodName := ⟨RJ6, "bitCount", "(I)I"⟩
def RJ9 : String := "java/lang/Math"
abbrev cJ9_max_7cf53 : ByteArray := prog_25_method_65_code
def yJ9_max_7cf53 : MethodName := ⟨RJ9, "max", "(II)I"⟩
abbrev cJ9_min_7cf53 : ByteArray := prog_25_method_69_code
def yJ9_min_7cf53 : MethodName := ⟨RJ9, "min", "(II)I"⟩
def RJ0 : String := "java/lang/String"
abbrev cJ0_length_8abf5 : ByteArray := prog_27_method_54_code
def yJ0_length_8abf5 : MethodName := ⟨RJ0, "length", "()I"⟩
abbrev cJ0_charAt_5068e : ByteArray := prog_27_method_56_code
def yJ0_charAt_5068e : MethodName := ⟨RJ0, "charAt", "(I)C"⟩
abbrev cJ0_coder_7d493 : ByteArray := prog_27_method_152_code
def yJ0_coder_7d493 : MethodName := ⟨RJ0, "coder", "()B"⟩
abbrev cJ0_isLatin1_aae02 : ByteArray := prog_27_method_154_code
def yJ0_isLatin1_aae02 : MethodName := ⟨RJ0, "isLatin1", "()Z"⟩
abbrev cJ0_checkIndex_df160 : ByteArray := prog_27_method_155_code
def yJ0_checkIndex_df160 : MethodName := ⟨RJ0, "checkIndex", "(II)V"⟩
def RJ1 : String := "java/lang/StringLatin1"
abbrev cJ1_charAt_3b067 : ByteArray := prog_28_method_2_code
def yJ1_charAt_3b067 : MethodName := ⟨RJ1, "charAt", "([BI)C"⟩
def RJ2 : String := "java/lang/StringUTF16"
abbrev cJ2_getChar_3b067 : ByteArray := prog_29_method_5_code
def yJ2_getChar_3b067 : MethodName := ⟨RJ2, "getChar", "([BI)C"⟩
abbrev cJ2_length_9d52b : ByteArray := prog_29_method_6_code
def yJ2_length_9d52b : MethodName := ⟨RJ2, "length", "([B)I"⟩
abbrev cJ2_charAt_3b067 : ByteArray := prog_29_method_83_code
def yJ2_charAt_3b067 : MethodName := ⟨RJ2, "charAt", "([BI)C"⟩
abbrev cJ2_checkIndex_2214a : ByteArray := prog_29_method_91_code
def yJ2_checkIndex_2214a : MethodName := ⟨RJ2, "checkIndex", "(I[B)V"⟩
def RJ10 : String := "java/lang/System"
def RJ3 : String := "jdk/internal/util/Preconditions"
abbrev cJ3_checkIndex_8e157 : ByteArray := prog_36_method_11_code
def yJ3_checkIndex_8e157 : MethodName := ⟨RJ3, "checkIndex", "(IILjava/util/function/BiFunction;)I"⟩
def RL : String := "GripEstatesLaw"
abbrev cL_valley : ByteArray := method_3_code
def yL_valley : MethodName := ⟨RL, "valley", "(LGripEstates;[J)I"⟩
abbrev cL_law : ByteArray := method_4_code
def yL_law : MethodName := ⟨RL, "law", "(LGripEstates;[J)I"⟩
abbrev cL_person : ByteArray := method_5_code
def yL_person : MethodName := ⟨RL, "person", "(LGripEstates;II[J)I"⟩
abbrev cL_thing : ByteArray := method_6_code
def yL_thing : MethodName := ⟨RL, "thing", "(LGripEstates;II[J)I"⟩
abbrev cL_shuts : ByteArray := method_7_code
def yL_shuts : MethodName := ⟨RL, "shuts", "(LGripEstates;II[J)I"⟩
abbrev cL_nights : ByteArray := method_8_code
def yL_nights : MethodName := ⟨RL, "nights", "(LGripEstates;I[J)I"⟩
abbrev cL_lay : ByteArray := method_9_code
def yL_lay : MethodName := ⟨RL, "lay", "(LGripEstates;II[J)I"⟩
abbrev cL_clear : ByteArray := method_10_code
def yL_clear : MethodName := ⟨RL, "clear", "(LGripEstates;I[J)I"⟩
abbrev cL_wake : ByteArray := method_11_code
def yL_wake : MethodName := ⟨RL, "wake", "(LGripEstates;I[J)I"⟩
abbrev cL_open : ByteArray := method_12_code
def yL_open : MethodName := ⟨RL, "open", "(LGripEstates;I[J)I"⟩
abbrev cL_swap : ByteArray := method_13_code
def yL_swap : MethodName := ⟨RL, "swap", "(LGripEstates;II[J)I"⟩
abbrev cL_heir : ByteArray := method_14_code
def yL_heir : MethodName := ⟨RL, "heir", "(LGripEstates;II[J)I"⟩
abbrev cL_tie : ByteArray := method_15_code
def yL_tie : MethodName := ⟨RL, "tie", "(LGripEstates;IZ[J)I"⟩
abbrev cL_born : ByteArray := method_16_code
def yL_born : MethodName := ⟨RL, "born", "(LGripEstates;I[J)I"⟩
abbrev cL_give : ByteArray := method_17_code
def yL_give : MethodName := ⟨RL, "give", "(LGripEstates;II[J)I"⟩
abbrev cL_hoard : ByteArray := method_18_code
def yL_hoard : MethodName := ⟨RL, "hoard", "(LGripEstates;IIZ[J)I"⟩
abbrev cL_put : ByteArray := method_19_code
def yL_put : MethodName := ⟨RL, "put", "(LGripEstates;I[J)I"⟩
abbrev cL_held : ByteArray := method_20_code
def yL_held : MethodName := ⟨RL, "held", "(LGripEstates;[J)I"⟩
abbrev cL_likely : ByteArray := method_21_code
def yL_likely : MethodName := ⟨RL, "likely", "(LGripEstates;[J)I"⟩
abbrev cL_ask : ByteArray := method_22_code
def yL_ask : MethodName := ⟨RL, "ask", "(LGripEstates;[J)I"⟩
abbrev cL_strong : ByteArray := method_23_code
def yL_strong : MethodName := ⟨RL, "strong", "(LGripEstates;Z[J)I"⟩
abbrev cL_test : ByteArray := method_24_code
def yL_test : MethodName := ⟨RL, "test", "(LGripEstates;[J)I"⟩
abbrev cL_fingers : ByteArray := method_25_code
def yL_fingers : MethodName := ⟨RL, "fingers", "(LGripEstates;I[J)I"⟩
abbrev cL_opens : ByteArray := method_26_code
def yL_opens : MethodName := ⟨RL, "opens", "(LGripEstates;I[J)I"⟩
abbrev cL_pairs : ByteArray := method_27_code
def yL_pairs : MethodName := ⟨RL, "pairs", "(LGripEstates;I[J)I"⟩
abbrev cL_rests : ByteArray := method_28_code
def yL_rests : MethodName := ⟨RL, "rests", "(LGripEstates;I[J)I"⟩
abbrev cL_odds : ByteArray := method_29_code
def yL_odds : MethodName := ⟨RL, "odds", "(LGripEstates;I[J)I"⟩
abbrev cL_most : ByteArray := method_30_code
def yL_most : MethodName := ⟨RL, "most", "(LGripEstates;I[J)I"⟩
abbrev cL_ahead : ByteArray := method_31_code
def yL_ahead : MethodName := ⟨RL, "ahead", "(LGripEstates;II[J)I"⟩
abbrev cL_trial : ByteArray := method_32_code
def yL_trial : MethodName := ⟨RL, "trial", "(LGripEstates;IZ[J)I"⟩
abbrev cL_span : ByteArray := method_33_code
def yL_span : MethodName := ⟨RL, "span", "(LGripEstates;IZ[J)I"⟩
abbrev cL_led : ByteArray := method_34_code
def yL_led : MethodName := ⟨RL, "led", "(LGripEstates;IZ[J)I"⟩
abbrev cL_log : ByteArray := method_35_code
def yL_log : MethodName := ⟨RL, "log", "(LGripEstates;II[J)I"⟩
abbrev cL_law_ : ByteArray := code
def yL_law_ : MethodName := ⟨RL, "law", "([I)Z"⟩
end
section
/-! ===== the abstract machine's heap, contexts and judgements ===== -/
/-- shapes (kind, size), contents, the next address -/
abbrev Hp : Type := (Nat → Nat × Nat) × (Nat → Nat → Value) × Nat
/-- returned (nothing or a value), or thrown (a class) -/
abbrev Res : Type := Option Value ⊕ String
/-- name, bytes, locals, answer's type, cells, slots, depth -/
abbrev Mr : Type := MethodName × ByteArray × Nat × Option FieldType × Nat × Nat × Nat
/-- launch; numbers and slots; the first new address; statics; old fields; old objects' kinds; texts' addresses -/
abbrev Gx : Type := Launch × va_G × Nat × (Nat → Value) × (Nat → Nat → Value) × (Nat → Nat) × (Nat → Nat)
abbrev Gx.n0 (G : Gx) : Nat := G.2.2.1
abbrev Gx.st (G : Gx) : Nat → Value := G.2.2.2.1
abbrev Gx.of (G : Gx) : Nat → Nat → Value := G.2.2.2.2.1
abbrev Gx.oc (G : Gx) : Nat → Nat := G.2.2.2.2.2.1
abbrev Gx.lit (G : Gx) : Nat → Nat := G.2.2.2.2.2.2
abbrev Mr.mc (r : Mr) : Nat := r.2.2.2.2.1
abbrev Mr.ms (r : Mr) : Nat := r.2.2.2.2.2.1
abbrev Mr.dp (r : Mr) : Nat := r.2.2.2.2.2.2
abbrev Mr.ml (r : Mr) : Nat := r.2.2.1
abbrev Mr.rt (r : Mr) : Option FieldType := r.2.2.2.1
def Mr.rm (r : Mr) : Room := { frames := r.dp, cells := r.mc, slots := r.ms, locals := 64 * r.dp }
def lw_good : List Cond := lw_tbl.filter goodWord
def Mr.ws (r : Mr) : List Cond := Cond.code r.1 r.2.1 r.ml r.rt :: lw_good
/-- the classes with objects -/
def cls : List vw_C := [(RX1, TX1, 5), (RX2, TX2, 7), (RX3, TX3, 3), (RX4, TX4, 5), (RX5, TX5, 6), (RX6, TX6, 3), (RX8, TX8, 1), (RX9, TX9, 19), (RX10, TX10, 1), (RX11, TX11, 13), (RX12, TX12, 25)]
/-- the kinds of arrays -/
def aty (j : Nat) : FieldType := match j with
  | 0 => .int
  | 1 => .boolean
  | 2 => .byte
  | 3 => .long
  | 4 => .object "GripEstates$Token"
  | _ => .object "GripEstates$Valley"
/-- statics that are read: class, name, type -/
def sts : List (String × String × String) := [("GripEstates$Token", "NUMBER", "LGripEstates$Token;"), ("GripEstates$Token", "ALL", "[LGripEstates$Token;"), ("java/lang/String", "COMPACT_STRINGS", "Z"), ("jdk/internal/util/Preconditions", "SIOOBE_FORMATTER", "Ljava/util/function/BiFunction;"), ("java/lang/StringUTF16", "$assertionsDisabled", "Z"), ("java/lang/StringUTF16", "HI_BYTE_SHIFT", "I"), ("java/lang/StringUTF16", "LO_BYTE_SHIFT", "I"), ("GripEstates$Token", "WRONG", "LGripEstates$Token;"), ("GripEstates$Token", "END", "LGripEstates$Token;"), ("GripEstates$Token", "PERSON", "LGripEstates$Token;"), ("GripEstates$Token", "AGE", "LGripEstates$Token;"), ("GripEstates$Token", "GRIP", "LGripEstates$Token;"), ("GripEstates$Token", "HEIR", "LGripEstates$Token;"), ("GripEstates$Token", "TIED", "LGripEstates$Token;"), ("GripEstates$Token", "THING", "LGripEstates$Token;"), ("GripEstates$Token", "WORTH", "LGripEstates$Token;"), ("GripEstates$Token", "SIZE", "LGripEstates$Token;"), ("GripEstates$Token", "OF", "LGripEstates$Token;"), ("GripEstates$Token", "HELD", "LGripEstates$Token;"), ("GripEstates$Token", "CLOTH", "LGripEstates$Token;"), ("GripEstates$Token", "CROWN", "LGripEstates$Token;"), ("GripEstates$Token", "DEATH", "LGripEstates$Token;"), ("GripEstates$Token", "WITNESSES", "LGripEstates$Token;"), ("GripEstates$Token", "NIGHT", "LGripEstates$Token;"), ("GripEstates$Token", "SEMICOLON", "LGripEstates$Token;"), ("GripEstates$Token", "SLIP", "LGripEstates$Token;"), ("GripEstates$Token", "FAIL", "LGripEstates$Token;"), ("GripEstates$Token", "IF", "LGripEstates$Token;"), ("GripEstates$Token", "NOT", "LGripEstates$Token;"), ("GripEstates$Token", "OPENING", "LGripEstates$Token;"), ("GripEstates$Token", "CLOSING", "LGripEstates$Token;"), ("GripEstates$Token", "PLUS", "LGripEstates$Token;"), ("GripEstates$Token", "LESS", "LGripEstates$Token;"), ("GripEstates$Token", "MORE", "LGripEstates$Token;"), ("GripEstates$Token", "AND", "LGripEstates$Token;"), ("GripEstates$Token", "OR", "LGripEstates$Token;"), ("GripEstates$Token", "OPEN", "LGripEstates$Token;"), ("GripEstates$Token", "ALONE", "LGripEstates$Token;"), ("GripEstates$Token", "HAND", "LGripEstates$Token;"), ("GripEstates$Token", "OWNS", "LGripEstates$Token;"), ("GripEstates$Token", "LAID", "LGripEstates$Token;")]
/-- fields of old objects that are read -/
def ofs : List (String × String × String) := [("GripEstates$Token", "text", "Ljava/lang/String;"), ("GripEstates$Token", "op", "I"), ("java/lang/String", "value", "[B"), ("java/lang/String", "coder", "B")]
/-- the kinds of old objects -/
def ocs : List String := ["GripEstates$Token", "java/lang/String"]
/-- text constants: whose, the entry, the text -/
def lits : List (String × Nat × String) := [("GripEstatesModel", 189, "person"), ("GripEstatesModel", 144, "age"), ("GripEstatesModel", 150, "grip"), ("GripEstatesModel", 152, "heir"), ("GripEstatesModel", 163, "tied"), ("GripEstatesModel", 197, "thing"), ("GripEstatesModel", 177, "worth"), ("GripEstatesModel", 179, "size"), ("GripEstatesModel", 181, "of"), ("GripEstatesModel", 169, "held"), ("GripEstatesModel", 171, "cloth"), ("GripEstatesModel", 203, "crown"), ("GripEstatesModel", 205, "death"), ("GripEstatesModel", 210, "witnesses"), ("GripEstatesModel", 212, "night"), ("GripEstatesModel", 264, "slip"), ("GripEstatesModel", 266, "fail"), ("GripEstatesModel", 268, "if"), ("GripEstatesModel", 246, "not"), ("GripEstatesModel", 236, "open"), ("GripEstatesModel", 238, "alone"), ("GripEstatesModel", 217, "hand"), ("GripEstatesModel", 219, "owns"), ("GripEstatesModel", 221, "laid"), ("GripEstatesModel", 257, "and"), ("GripEstatesModel", 262, "or"), ("GripEstates$Token", 162, ""), ("GripEstates$Token", 170, "person"), ("GripEstates$Token", 173, "age"), ("GripEstates$Token", 176, "grip"), ("GripEstates$Token", 179, "heir"), ("GripEstates$Token", 182, "tied"), ("GripEstates$Token", 185, "thing"), ("GripEstates$Token", 188, "worth"), ("GripEstates$Token", 191, "size"), ("GripEstates$Token", 194, "of"), ("GripEstates$Token", 197, "held"), ("GripEstates$Token", 200, "cloth"), ("GripEstates$Token", 203, "crown"), ("GripEstates$Token", 206, "death"), ("GripEstates$Token", 209, "witnesses"), ("GripEstates$Token", 212, "night"), ("GripEstates$Token", 248, ";"), ("GripEstates$Token", 215, "slip"), ("GripEstates$Token", 218, "fail"), ("GripEstates$Token", 221, "if"), ("GripEstates$Token", 230, "not"), ("GripEstates$Token", 251, "("), ("GripEstates$Token", 254, ")"), ("GripEstates$Token", 257, "+"), ("GripEstates$Token", 260, "<"), ("GripEstates$Token", 263, ">"), ("GripEstates$Token", 227, "and"), ("GripEstates$Token", 224, "or"), ("GripEstates$Token", 233, "open"), ("GripEstates$Token", 236, "alone"), ("GripEstates$Token", 239, "hand"), ("GripEstates$Token", 242, "owns"), ("GripEstates$Token", 245, "laid")]
/-- words that speak of more than the tables -/
def nests : List (String × Nat × MethodName × String) := [("GripEstates", 9, ⟨"GripEstates$Tape", "<init>", "()V"⟩, "GripEstates"), ("GripEstates", 18, ⟨"GripEstates$Told", "<init>", "()V"⟩, "GripEstates"), ("GripEstates", 25, ⟨"GripEstates$Matches", "<init>", "()V"⟩, "GripEstates"), ("GripEstates", 52, ⟨"GripEstates$Reader", "<init>", "()V"⟩, "GripEstates"), ("GripEstates$Valley", 66, ⟨"GripEstates$Log", "<init>", "()V"⟩, "GripEstates")]
def casts : List (String × String) := [("java/lang/IllegalArgumentException", "java/lang/IllegalArgumentException"), ("java/lang/UnsupportedOperationException", "java/lang/UnsupportedOperationException"), ("[I", "java/lang/Cloneable"), ("java/lang/IndexOutOfBoundsException", "java/lang/IndexOutOfBoundsException"), ("java/util/NoSuchElementException", "java/util/NoSuchElementException"), ("java/lang/IllegalStateException", "java/lang/IllegalStateException"), ("GripEstates", "java/lang/Object"), ("GripEstates$Tape", "java/lang/Object"), ("GripEstates$Told", "java/lang/Object"), ("GripEstates$Matches", "java/lang/Object"), ("GripEstates$Reader", "java/lang/Object"), ("GripEstates$ValleyReader", "java/lang/Object"), ("GripEstates$LawReader", "java/lang/Object"), ("GripEstates$Law", "java/lang/Object"), ("GripEstates$Valley", "java/lang/Object"), ("GripEstates$Log", "java/lang/Object"), ("GripEstatesModel", "java/lang/Object"), ("GripEstates$Token", "java/lang/Object"), ("java/lang/IllegalArgumentException", "java/lang/Object"), ("java/lang/UnsupportedOperationException", "java/lang/Object"), ("java/lang/IndexOutOfBoundsException", "java/lang/Object"), ("java/util/NoSuchElementException", "java/lang/Object"), ("java/lang/IllegalStateException", "java/lang/Object"), ("java/lang/Throwable", "java/lang/Object"), ("java/lang/String", "java/lang/Object")]
def decls : List MethodName := [⟨"java/lang/RuntimeException", "<init>", "()V"⟩, ⟨"java/lang/RuntimeException", "<init>", "(Ljava/lang/String;)V"⟩, ⟨"java/lang/Exception", "<init>", "()V"⟩, ⟨"java/lang/Exception", "<init>", "(Ljava/lang/String;)V"⟩, ⟨"java/lang/Throwable", "<init>", "()V"⟩, ⟨"java/lang/Throwable", "<init>", "(Ljava/lang/String;)V"⟩]
def ncasts : List (String × String) := [("java/lang/UnsupportedOperationException", "java/lang/IllegalArgumentException"), ("java/lang/IndexOutOfBoundsException", "java/lang/IllegalArgumentException"), ("java/util/NoSuchElementException", "java/lang/IllegalArgumentException"), ("java/lang/IllegalStateException", "java/lang/IllegalArgumentException"), ("java/lang/IllegalArgumentException", "java/lang/UnsupportedOperationException"), ("java/lang/IndexOutOfBoundsException", "java/lang/UnsupportedOperationException"), ("java/util/NoSuchElementException", "java/lang/UnsupportedOperationException"), ("java/lang/IllegalStateException", "java/lang/UnsupportedOperationException"), ("java/lang/IllegalArgumentException", "java/lang/IndexOutOfBoundsException"), ("java/lang/UnsupportedOperationException", "java/lang/IndexOutOfBoundsException"), ("java/util/NoSuchElementException", "java/lang/IndexOutOfBoundsException"), ("java/lang/IllegalStateException", "java/lang/IndexOutOfBoundsException"), ("java/lang/IllegalArgumentException", "java/util/NoSuchElementException"), ("java/lang/UnsupportedOperationException", "java/util/NoSuchElementException"), ("java/lang/IndexOutOfBoundsException", "java/util/NoSuchElementException"), ("java/lang/IllegalStateException", "java/util/NoSuchElementException"), ("java/lang/IllegalArgumentException", "java/lang/IllegalStateException"), ("java/lang/UnsupportedOperationException", "java/lang/IllegalStateException"), ("java/lang/IndexOutOfBoundsException", "java/lang/IllegalStateException"), ("java/util/NoSuchElementException", "java/lang/IllegalStateException")]
def aovers : List String := ["GripEstates$Valley", "GripEstates$Token"]
def un : Value := .retAddr 0
def cok (G : Gx) (U : State) (H : Heap) (a : Nat) (q : Nat × Nat) (f : Nat → Value) : Prop :=
  (1 ≤ q.1 → q.1 ≤ 100 → ∃ r, cls[q.1 - 1]? = some r ∧ q.2 = r.2.2 ∧ t_OB a (G.2.1.1 (q.1 - 1)) r.2.2 (G.2.1.2 (q.1 - 1)) H f) ∧
  (100 < q.1 → ∃ cell : Cell, H[a]? = some cell ∧ U.isArrayOf cell (aty (q.1 - 101)) ∧ cell.vm ≠ .unknown ∧ cell.slots.size = q.2 ∧ q.2 < 2 ^ 31 ∧ (∀ i, i < q.2 → cell.slots[i]? = some (f i)) ∧ (G.n0 ≤ a → va_RA U cell.cls (aty (q.1 - 101))))
def Rel (G : Gx) (h : Hp) (U : State) (H : Heap) : Prop := H.size = h.2.2 ∧ G.n0 ≤ h.2.2 ∧ ∀ a, cok G U H a (h.1 a) (h.2.1 a)
abbrev nw (G : Gx) : Nat → Prop := fun q => G.n0 ≤ q
def GokX (G : Gx) (U : State) : Prop :=
  (∀ q ∈ nests, va_Nw (.methodLinkNest q.1 q.2.1 q.2.2.1 q.2.2.2) U) ∧ (∀ q ∈ casts, va_Nw (.castable q.1 q.2) U) ∧ (∀ q ∈ decls, va_Nw (.declares q) U) ∧ (∀ q ∈ ncasts, va_Nc q.1 q.2 U) ∧ (∀ q ∈ aovers, va_AO q U) ∧
  vx_Zq Bundle.tN "UNASSIGNED_STACK" Bundle.steD (G.2.2.1 ≤ ·) U U.heap ∧ vx_Zq Bundle.tN "SUPPRESSED_SENTINEL" Bundle.listD (G.2.2.1 ≤ ·) U U.heap
theorem GokX.moved {G : Gx} {u U : State} (hW : u.WarmedH U.vm) (hq : ∀ a : Nat, a < u.heap.size → ¬ (G.2.2.1 ≤ a) → U.heap[a]? = u.heap[a]?) (h : GokX G u) : GokX G U :=
  ⟨fun q hk => (h.1 q hk).warmM hW, fun q hk => (h.2.1 q hk).warmC hW, fun q hk => (h.2.2.1 q hk).warmD hW, fun q hk => (h.2.2.2.1 q hk).moved hW.alike, fun q hk => (h.2.2.2.2.1 q hk).moved hW.alike, vx_Zq.moved hW.alike (h.2.2.2.2.2.1.kept hq), vx_Zq.moved hW.alike (h.2.2.2.2.2.2.kept hq)⟩
def Gok (G : Gx) (U : State) : Prop :=
  G.n0 ≤ U.heap.size ∧ (∀ (k : Nat) (q : vw_C), cls[k]? = some q → u_Kn U q.1 q.2.1 q.2.2 (G.2.1.1 k) (G.2.1.2 k)) ∧
  (∀ (i : Nat) (q : String × String × String), sts[i]? = some q → va_Z q.1 q.2.1 q.2.2 (G.st i) (nw G) U U.heap) ∧
  (∀ (i a : Nat) (q : String × String × String), ofs[i]? = some q → G.of i a ≠ un → va_OF q.1 q.2.1 q.2.2 (G.of i a) a (nw G) U U.heap) ∧
  (∀ (i a : Nat) (q : String), ocs[i]? = some q → G.oc a = i + 1 → va_O q a (nw G) U U.heap) ∧
  (∀ (i : Nat) (q : String × Nat × String), lits[i]? = some q → vk_R q.1 q.2.1 q.2.2 (G.lit i) U) ∧ GokX G U
theorem cok.moved {G : Gx} {u U : State} {H : Heap} {a : Nat} {q : Nat × Nat} {f : Nat → Value} (hvm : u.vm.Alike U.vm) (h : cok G u H a q f) : cok G U H a q f := by
  refine ⟨h.1, fun h1 => ?_⟩
  obtain ⟨cell, h2, h3, h4, h5, h6, h7, h8⟩ := h.2 h1
  exact ⟨cell, h2, State.isArrayOf_alike hvm h3, h4, h5, h6, h7, fun z => (h8 z).moved hvm⟩
theorem Rel.moved {G : Gx} {h : Hp} {u U : State} {H : Heap} (hvm : u.vm.Alike U.vm) (x : Rel G h u H) : Rel G h U H := ⟨x.1, x.2.1, fun a => (x.2.2 a).moved hvm⟩
theorem Gok.moved {G : Gx} {u U : State} (hW : u.WarmedH U.vm) (hsz : u.heap.size ≤ U.heap.size) (hq : ∀ a : Nat, a < u.heap.size → ¬ nw G a → U.heap[a]? = u.heap[a]?) (h : Gok G u) : Gok G U :=
  ⟨Nat.le_trans h.1 hsz, fun k q hk => u_Kn_moved hW.alike (h.2.1 k q hk), fun i q hi => va_Z.moved hW.alike ((h.2.2.1 i q hi).kept hq), fun i a q hi ha => va_OF.moved hW.alike ((h.2.2.2.1 i a q hi ha).kept hq), fun i a q hi ha => va_O.moved hW.alike ((h.2.2.2.2.1 i a q hi ha).kept hq), fun i q hi => (h.2.2.2.2.2.1 i q hi).warm hW, h.2.2.2.2.2.2.moved hW hq⟩
/-- what is at a method's end -/
def QcP (G : Gx) (Post : Res → Hp → Prop) : Array Value → State → Outcome → State → Prop := fun _ st o t => ∃ (v : Option Value) (h' : Hp), o = .returned v ∧ Post (.inl v) h' ∧ Rel G h' t t.heap ∧ va_F (nw G) st t
def XCP (G : Gx) (Post : Res → Hp → Prop) : String → State → State → Prop := fun E st t => ∃ h' : Hp, Post (.inr E) h' ∧ Rel G h' t t.heap ∧ va_F (nw G) st t
def PcP (G : Gx) (args : List Value) (h : Hp) : Array Value → State → Prop := fun v U => v = args.toArray ∧ Gok G U ∧ Rel G h U U.heap
/-- a method's contract -/
def EvM (G : Gx) (r : Mr) (args : List Value) (h : Hp) (Post : Res → Hp → Prop) : Prop := vx_Met G.1 r.1 r.ws r.rm (PcP G args h) (QcP G Post) (XCP G Post) r.mc r.ms (nw G)
/-- where one is, in a method -/
def FrC (G : Gx) (r : Mr) (p : Program) (s : State) (m : MethodId) (args : Array Value) (meth : Method) (c : Code) : Prop :=
  p.tables.exec = Jvm.exec ∧ c.code = r.2.1 ∧ meth.sig.returnType = r.rt ∧ c.maxLocals = r.ml ∧ s.vm.findClass r.1.cls = some m.cls ∧ (∀ w ∈ lw_good, w.before args s = true) ∧ meth.locks = false ∧ meth.name = r.1.name ∧ Gok G s ∧ (∀ x ∈ c.exceptionTable.toList, False)
/-- locals: what is known of them -/
def LR (n : Nat) (ls : Array Slot) (L : List Value) : Prop := ls.size = n ∧ lv_wf ls ∧ L.length = n ∧ ∀ (i : Nat) (v : Value), L[i]? = some v → v ≠ un → v.category = 1 ∧ ls[i]? = some (.val v)
def Ev (G : Gx) (r : Mr) (pc : Nat) (L st : List Value) (h : Hp) (cs ss : Nat) (Post : Res → Hp → Prop) : Prop :=
  ∀ (p : Program) (e : Env) (s : State) (m : MethodId) (args : Array Value) (below : List Frame) (meth : Method) (c : Code) (ls : Array Slot) (H : Heap) (locs : List Loc),
    FrC G r p s m args meth c → LR r.ml ls L → Rel G h s H → va_S (nw G) s.heap H locs → cs ≤ r.mc → ss ≤ r.ms →
    W p G.1 e r.rm s m args below meth c H locs cs ss (vx_MQ below (QcP G Post) (XCP G Post) args s r.mc r.ms (nw G)) (F0 m pc ls st)
theorem LR.get {n : Nat} {ls : Array Slot} {L : List Value} (h : LR n ls L) {i : Nat} {v : Value} (hi : L[i]? = some v) (hv : v ≠ un) : ls[i]? = some (.val v) := (h.2.2.2 i v hi hv).2
theorem LR.kill {n : Nat} {ls : Array Slot} {L : List Value} (h : LR n ls L) (d : Nat) : LR n ls (L.set d un) := by
  refine ⟨h.1, h.2.1, by simpa using h.2.2.1, fun i v hi hv => ?_⟩
  rw [List.getElem?_set] at hi
  by_cases hd : d = i
  · rw [if_pos hd] at hi
    split at hi
    · exact absurd (Option.some.inj hi).symm hv
    · cases hi
  · rw [if_neg hd] at hi
    exact h.2.2.2 i v hi hv
theorem LR.set {n : Nat} {ls : Array Slot} {L : List Value} (h : LR n ls L) {i : Nat} {v : Value} (hi : i < n) (hc : v.category = 1) : ∃ ls', storeLocals ls i v = some ls' ∧ LR n ls' (L.set i v) := by
  have hh : lv_has ls n ((List.range n).filterMap fun j => match L[j]? with | some w => if w = un then none else some (j, w) | none => none) := by
    refine ⟨h.1, h.2.1, fun q hq => ?_⟩
    obtain ⟨j, -, hj⟩ := List.mem_filterMap.mp hq
    split at hj
    · rename_i w hw
      split at hj
      · cases hj
      · rename_i hne
        cases hj
        exact (h.2.2.2 j w hw hne).2
    · cases hj
  obtain ⟨ls', h1, h2⟩ := lv_store1 (v := v) hh hi hc
  refine ⟨ls', h1, h2.1, h2.2.1, by simpa using h.2.2.1, fun j w hj hw => ?_⟩
  rw [List.getElem?_set] at hj
  by_cases hd : i = j
  · rw [if_pos hd] at hj
    split at hj
    · cases hj
      subst hd
      exact ⟨hc, h2.2.2 (i, v) List.mem_cons_self⟩
    · cases hj
  · rw [if_neg hd] at hj
    obtain ⟨c1, -⟩ := h.2.2.2 j w hj hw
    refine ⟨c1, h2.2.2 (j, w) (List.mem_cons_of_mem _ (List.mem_filter.mpr ⟨List.mem_filterMap.mpr ⟨j, List.mem_range.mpr ?_, ?_⟩, ?_⟩))⟩
    · rw [← h.2.2.1]
      exact (List.getElem?_eq_some_iff.mp hj).1
    · rw [hj]
      simp only
      rw [if_neg hw]
    · have : ¬ w.category = 2 := by omega
      simp [Ne.symm hd, this]
end
section
/-! ===== rows: an instruction each ===== -/
theorem un_int (x : Int32) : Value.int x ≠ un := fun h => nomatch h
theorem un_ref (x : Nat) : Value.ref x ≠ un := fun h => nomatch h
theorem un_null : Value.null ≠ un := fun h => nomatch h
theorem good_mem {w : Cond} (h : w ∈ lw_good) : goodWord w = true := (List.mem_filter.mp h).2
theorem good_in {ws : List Cond} (h : ∀ w ∈ ws, w ∈ lw_good) : GoodIn lw_good ws := fun w hw => ⟨h w hw, good_of_word (good_mem (h w hw))⟩
section EVR
variable {G : Gx} {r : Mr} {pc : Nat} {L st : List Value} {h : Hp} {cs ss : Nat} {Post : Res → Hp → Prop}
theorem ev_iload {i : Nat} {x : Int32} (hd : decode r.2.1 pc = .ok (.iload i, 2)) (hL : L[i]? = some (.int x)) (k : Ev G r (pc + 2) L (.int x :: st) h cs ss Post) : Ev G r pc L st h cs ss Post :=
  fun p e s m args below meth c ls H locs F hl hR hS h1 h2 => lv_iload F.1 F.2.1 hd (hl.get hL (un_int x)) (k p e s m args below meth c ls H locs F hl hR hS h1 h2)
theorem ev_iloadn {i : Nat} {x : Int32} {j : Fin 4} (hj : (j : Nat) = i) (hd : decode r.2.1 pc = .ok (.iload_n j, 1)) (hL : L[i]? = some (.int x)) (k : Ev G r (pc + 1) L (.int x :: st) h cs ss Post) : Ev G r pc L st h cs ss Post :=
  fun p e s m args below meth c ls H locs F hl hR hS h1 h2 => lv_iload_n F.1 F.2.1 hd hj (hl.get hL (un_int x)) (k p e s m args below meth c ls H locs F hl hR hS h1 h2)
theorem ev_aload {i : Nat} {x : Nat} (hd : decode r.2.1 pc = .ok (.aload i, 2)) (hL : L[i]? = some (.ref x)) (k : Ev G r (pc + 2) L (.ref x :: st) h cs ss Post) : Ev G r pc L st h cs ss Post :=
  fun p e s m args below meth c ls H locs F hl hR hS h1 h2 => lv_aload F.1 F.2.1 hd (hl.get hL (un_ref x)) (k p e s m args below meth c ls H locs F hl hR hS h1 h2)
theorem ev_aloadn {i : Nat} {x : Nat} {j : Fin 4} (hj : (j : Nat) = i) (hd : decode r.2.1 pc = .ok (.aload_n j, 1)) (hL : L[i]? = some (.ref x)) (k : Ev G r (pc + 1) L (.ref x :: st) h cs ss Post) : Ev G r pc L st h cs ss Post :=
  fun p e s m args below meth c ls H locs F hl hR hS h1 h2 => lv_aload_n F.1 F.2.1 hd hj (hl.get hL (un_ref x)) (k p e s m args below meth c ls H locs F hl hR hS h1 h2)
theorem ev_istore {i : Nat} {x : Int32} (hd : decode r.2.1 pc = .ok (.istore i, 2)) (hi : i < r.ml) (k : Ev G r (pc + 2) (L.set i (.int x)) st h cs ss Post) : Ev G r pc L (.int x :: st) h cs ss Post := by
  intro p e s m args below meth c ls H locs F hl hR hS h1 h2
  obtain ⟨ls', e', h'⟩ := hl.set (v := .int x) hi rfl
  have hexec := F.1
  have hb := F.2.1
  intro T hT X
  obtain ⟨t, a, b⟩ := k p e s m args below meth c ls' H locs F h' hR hS h1 h2 T hT X
  refine ⟨t, ?_, b⟩
  jvm_step X.here [X.here.top, ↓top_set X.here.top, hexec, hb, hd, e']
  exact a
theorem ev_istoren {i : Nat} {x : Int32} {j : Fin 4} (hj : (j : Nat) = i) (hd : decode r.2.1 pc = .ok (.istore_n j, 1)) (hi : i < r.ml) (k : Ev G r (pc + 1) (L.set i (.int x)) st h cs ss Post) : Ev G r pc L (.int x :: st) h cs ss Post := by
  intro p e s m args below meth c ls H locs F hl hR hS h1 h2
  subst hj
  obtain ⟨ls', e', h'⟩ := hl.set (v := .int x) hi rfl
  have hexec := F.1
  have hb := F.2.1
  intro T hT X
  obtain ⟨t, a, b⟩ := k p e s m args below meth c ls' H locs F h' hR hS h1 h2 T hT X
  refine ⟨t, ?_, b⟩
  jvm_step X.here [X.here.top, ↓top_set X.here.top, hexec, hb, hd, e']
  exact a
theorem ev_astore {i : Nat} {x : Nat} (hd : decode r.2.1 pc = .ok (.astore i, 2)) (hi : i < r.ml) (k : Ev G r (pc + 2) (L.set i (.ref x)) st h cs ss Post) : Ev G r pc L (.ref x :: st) h cs ss Post := by
  intro p e s m args below meth c ls H locs F hl hR hS h1 h2
  obtain ⟨ls', e', h'⟩ := hl.set (v := .ref x) hi rfl
  have hexec := F.1
  have hb := F.2.1
  intro T hT X
  obtain ⟨t, a, b⟩ := k p e s m args below meth c ls' H locs F h' hR hS h1 h2 T hT X
  refine ⟨t, ?_, b⟩
  jvm_step X.here [X.here.top, ↓top_set X.here.top, hexec, hb, hd, e']
  exact ⟨rfl, a⟩
theorem ev_astoren {i : Nat} {x : Nat} {j : Fin 4} (hj : (j : Nat) = i) (hd : decode r.2.1 pc = .ok (.astore_n j, 1)) (hi : i < r.ml) (k : Ev G r (pc + 1) (L.set i (.ref x)) st h cs ss Post) : Ev G r pc L (.ref x :: st) h cs ss Post := by
  intro p e s m args below meth c ls H locs F hl hR hS h1 h2
  subst hj
  obtain ⟨ls', e', h'⟩ := hl.set (v := .ref x) hi rfl
  have hexec := F.1
  have hb := F.2.1
  intro T hT X
  obtain ⟨t, a, b⟩ := k p e s m args below meth c ls' H locs F h' hR hS h1 h2 T hT X
  refine ⟨t, ?_, b⟩
  jvm_step X.here [X.here.top, ↓top_set X.here.top, hexec, hb, hd, e']
  exact ⟨rfl, a⟩
theorem ev_iinc {i : Nat} {x v : Int32} {n : Int} (hd : decode r.2.1 pc = .ok (.iinc i n, 3)) (hn : Int32.ofInt n = v) (hL : L[i]? = some (.int x)) (hi : i < r.ml) (k : Ev G r (pc + 3) (L.set i (.int (x + v))) st h cs ss Post) : Ev G r pc L st h cs ss Post := by
  intro p e s m args below meth c ls H locs F hl hR hS h1 h2
  subst hn
  have hg := hl.get hL (un_int x)
  obtain ⟨ls', e', h'⟩ := hl.set (v := .int (x + Int32.ofInt n)) hi rfl
  have hexec := F.1
  have hb := F.2.1
  intro T hT X
  obtain ⟨t, a, b⟩ := k p e s m args below meth c ls' H locs F h' hR hS h1 h2 T hT X
  refine ⟨t, ?_, b⟩
  jvm_step X.here [X.here.top, ↓top_set X.here.top, hexec, hb, hd, hg, e']
  exact a
theorem ev_iconst {n : Int} {v : Int32} (hd : decode r.2.1 pc = .ok (.iconst n, 1)) (hv : Int32.ofInt n = v) (k : Ev G r (pc + 1) L (.int v :: st) h cs ss Post) : Ev G r pc L st h cs ss Post :=
  fun p e s m args below meth c ls H locs F hl hR hS h1 h2 => lv_iconst F.1 F.2.1 hd hv (k p e s m args below meth c ls H locs F hl hR hS h1 h2)
theorem ev_bipush {n : Int} {v : Int32} (hd : decode r.2.1 pc = .ok (.bipush n, 2)) (hv : (Int8.ofInt n).toInt32 = v) (k : Ev G r (pc + 2) L (.int v :: st) h cs ss Post) : Ev G r pc L st h cs ss Post :=
  fun p e s m args below meth c ls H locs F hl hR hS h1 h2 => lv_bipush F.1 F.2.1 hd hv (k p e s m args below meth c ls H locs F hl hR hS h1 h2)
theorem ev_sipush {n : Int} {v : Int32} (hd : decode r.2.1 pc = .ok (.sipush n, 3)) (hv : (Int16.ofInt n).toInt32 = v) (k : Ev G r (pc + 3) L (.int v :: st) h cs ss Post) : Ev G r pc L st h cs ss Post :=
  fun p e s m args below meth c ls H locs F hl hR hS h1 h2 => lv_sipush F.1 F.2.1 hd hv (k p e s m args below meth c ls H locs F hl hR hS h1 h2)
theorem ev_ldc {n : Nat} {v : Int32} (hw : Cond.constant r.1.cls n v ∈ lw_good) (hd : decode r.2.1 pc = .ok (.ldc n, 2)) (k : Ev G r (pc + 2) L (.int v :: st) h cs ss Post) : Ev G r pc L st h cs ss Post :=
  fun p e s m args below meth c ls H locs F hl hR hS h1 h2 => lv_ldc F.1 F.2.1 F.2.2.2.2.1 (F.2.2.2.2.2.1 _ hw) hd (k p e s m args below meth c ls H locs F hl hR hS h1 h2)
theorem ev_ldcw {n : Nat} {v : Int32} (hw : Cond.constant r.1.cls n v ∈ lw_good) (hd : decode r.2.1 pc = .ok (.ldc_w n, 3)) (k : Ev G r (pc + 3) L (.int v :: st) h cs ss Post) : Ev G r pc L st h cs ss Post :=
  fun p e s m args below meth c ls H locs F hl hR hS h1 h2 => lv_ldcw F.1 F.2.1 F.2.2.2.2.1 (F.2.2.2.2.2.1 _ hw) hd (k p e s m args below meth c ls H locs F hl hR hS h1 h2)
theorem ev_ldcS {i n : Nat} {tx : String} (hi : lits[i]? = some (r.1.cls, n, tx)) (hd : decode r.2.1 pc = .ok (.ldc n, 2)) (k : Ev G r (pc + 2) L (.ref (G.lit i) :: st) h cs ss Post) : Ev G r pc L st h cs ss Post :=
  fun p e s m args below meth c ls H locs F hl hR hS h1 h2 => va_ldcS F.1 F.2.1 F.2.2.2.2.1 (F.2.2.2.2.2.2.2.2.1.2.2.2.2.2.1 i _ hi) hd (k p e s m args below meth c ls H locs F hl hR hS h1 h2)
theorem ev_gets {i n : Nat} {q : String × String × String} (hi : sts[i]? = some q) (hw : Cond.fieldLink r.1.cls n q.1 q.2.1 q.2.2 ∈ lw_good) (hd : decode r.2.1 pc = .ok (.getstatic n, 3)) (k : Ev G r (pc + 3) L (G.st i :: st) h cs ss Post) : Ev G r pc L st h cs ss Post :=
  fun p e s m args below meth c ls H locs F hl hR hS h1 h2 => va_gets F.1 F.2.1 (F.2.2.2.2.2.2.2.2.1.2.2.1 i _ hi) hS F.2.2.2.2.1 (F.2.2.2.2.2.1 _ hw) (fun _ h9 => h9) hd (k p e s m args below meth c ls H locs F hl hR hS h1 h2)
theorem ev_geto {i n a : Nat} {q : String × String × String} (hi : ofs[i]? = some q) (ha : G.of i a ≠ un) (hw : Cond.fieldLink r.1.cls n q.1 q.2.1 q.2.2 ∈ lw_good) (hd : decode r.2.1 pc = .ok (.getfield n, 3)) (k : Ev G r (pc + 3) L (G.of i a :: st) h cs ss Post) : Ev G r pc L (.ref a :: st) h cs ss Post :=
  fun p e s m args below meth c ls H locs F hl hR hS h1 h2 => vk_getf F.1 F.2.1 (F.2.2.2.2.2.2.2.2.1.2.2.2.1 i a _ hi ha) hS F.2.2.2.2.1 (F.2.2.2.2.2.1 _ hw) (fun _ h9 => h9) hd (k p e s m args below meth c ls H locs F hl hR hS h1 h2)
theorem ev_iadd {x y : Int32} (hd : decode r.2.1 pc = .ok (.iadd, 1)) (k : Ev G r (pc + 1) L (.int (x + y) :: st) h cs ss Post) : Ev G r pc L (.int y :: .int x :: st) h cs ss Post :=
  fun p e s m args below meth c ls H locs F hl hR hS h1 h2 => lv_iadd F.1 F.2.1 hd (k p e s m args below meth c ls H locs F hl hR hS h1 h2)
theorem ev_isub {x y : Int32} (hd : decode r.2.1 pc = .ok (.isub, 1)) (k : Ev G r (pc + 1) L (.int (x - y) :: st) h cs ss Post) : Ev G r pc L (.int y :: .int x :: st) h cs ss Post :=
  fun p e s m args below meth c ls H locs F hl hR hS h1 h2 => lv_isub F.1 F.2.1 hd (k p e s m args below meth c ls H locs F hl hR hS h1 h2)
theorem ev_imul {x y : Int32} (hd : decode r.2.1 pc = .ok (.imul, 1)) (k : Ev G r (pc + 1) L (.int (x * y) :: st) h cs ss Post) : Ev G r pc L (.int y :: .int x :: st) h cs ss Post :=
  fun p e s m args below meth c ls H locs F hl hR hS h1 h2 => lv_imul F.1 F.2.1 hd (k p e s m args below meth c ls H locs F hl hR hS h1 h2)
theorem ev_iand {x y : Int32} (hd : decode r.2.1 pc = .ok (.iand, 1)) (k : Ev G r (pc + 1) L (.int (x &&& y) :: st) h cs ss Post) : Ev G r pc L (.int y :: .int x :: st) h cs ss Post :=
  fun p e s m args below meth c ls H locs F hl hR hS h1 h2 => lv_iand F.1 F.2.1 hd (k p e s m args below meth c ls H locs F hl hR hS h1 h2)
theorem ev_ior {x y : Int32} (hd : decode r.2.1 pc = .ok (.ior, 1)) (k : Ev G r (pc + 1) L (.int (x ||| y) :: st) h cs ss Post) : Ev G r pc L (.int y :: .int x :: st) h cs ss Post :=
  fun p e s m args below meth c ls H locs F hl hR hS h1 h2 => lv_ior F.1 F.2.1 hd (k p e s m args below meth c ls H locs F hl hR hS h1 h2)
theorem ev_ixor {x y : Int32} (hd : decode r.2.1 pc = .ok (.ixor, 1)) (k : Ev G r (pc + 1) L (.int (x ^^^ y) :: st) h cs ss Post) : Ev G r pc L (.int y :: .int x :: st) h cs ss Post :=
  fun p e s m args below meth c ls H locs F hl hR hS h1 h2 => lv_ixor F.1 F.2.1 hd (k p e s m args below meth c ls H locs F hl hR hS h1 h2)
theorem ev_ishl {x y : Int32} (hd : decode r.2.1 pc = .ok (.ishl, 1)) (k : Ev G r (pc + 1) L (.int (x <<< (y &&& 31)) :: st) h cs ss Post) : Ev G r pc L (.int y :: .int x :: st) h cs ss Post :=
  fun p e s m args below meth c ls H locs F hl hR hS h1 h2 => lv_ishl F.1 F.2.1 hd (k p e s m args below meth c ls H locs F hl hR hS h1 h2)
theorem ev_ishr {x y : Int32} (hd : decode r.2.1 pc = .ok (.ishr, 1)) (k : Ev G r (pc + 1) L (.int (x >>> (y &&& 31)) :: st) h cs ss Post) : Ev G r pc L (.int y :: .int x :: st) h cs ss Post :=
  fun p e s m args below meth c ls H locs F hl hR hS h1 h2 => lv_ishr F.1 F.2.1 hd (k p e s m args below meth c ls H locs F hl hR hS h1 h2)
theorem ev_iushr {x y : Int32} (hd : decode r.2.1 pc = .ok (.iushr, 1)) (k : Ev G r (pc + 1) L (.int ((x.toUInt32 >>> (y.toUInt32 &&& Int32.toUInt32 31)).toInt32) :: st) h cs ss Post) : Ev G r pc L (.int y :: .int x :: st) h cs ss Post :=
  fun p e s m args below meth c ls H locs F hl hR hS h1 h2 => lv_iushr F.1 F.2.1 hd rfl (k p e s m args below meth c ls H locs F hl hR hS h1 h2)
theorem ev_idiv {x y : Int32} (hd : decode r.2.1 pc = .ok (.idiv, 1)) (hn : ¬ y = 0) (k : Ev G r (pc + 1) L (.int (x / y) :: st) h cs ss Post) : Ev G r pc L (.int y :: .int x :: st) h cs ss Post :=
  fun p e s m args below meth c ls H locs F hl hR hS h1 h2 => lv_idiv F.1 F.2.1 hd hn (k p e s m args below meth c ls H locs F hl hR hS h1 h2)
theorem ev_irem {x y : Int32} (hd : decode r.2.1 pc = .ok (.irem, 1)) (hn : ¬ y = 0) (k : Ev G r (pc + 1) L (.int (x - x / y * y) :: st) h cs ss Post) : Ev G r pc L (.int y :: .int x :: st) h cs ss Post :=
  fun p e s m args below meth c ls H locs F hl hR hS h1 h2 => lv_irem F.1 F.2.1 hd hn (k p e s m args below meth c ls H locs F hl hR hS h1 h2)
theorem ev_ineg {x : Int32} (hd : decode r.2.1 pc = .ok (.ineg, 1)) (k : Ev G r (pc + 1) L (.int (-x) :: st) h cs ss Post) : Ev G r pc L (.int x :: st) h cs ss Post :=
  fun p e s m args below meth c ls H locs F hl hR hS h1 h2 => lv_ineg F.1 F.2.1 hd (k p e s m args below meth c ls H locs F hl hR hS h1 h2)
theorem ev_i2b {x : Int32} (hd : decode r.2.1 pc = .ok (.i2b, 1)) (k : Ev G r (pc + 1) L (.int (x.toInt8.toInt32) :: st) h cs ss Post) : Ev G r pc L (.int x :: st) h cs ss Post :=
  fun p e s m args below meth c ls H locs F hl hR hS h1 h2 => lv_i2b F.1 F.2.1 hd rfl (k p e s m args below meth c ls H locs F hl hR hS h1 h2)
theorem ev_i2c {x : Int32} (hd : decode r.2.1 pc = .ok (.i2c, 1)) (k : Ev G r (pc + 1) L (.int ((x.toUInt32 % 65536).toInt32) :: st) h cs ss Post) : Ev G r pc L (.int x :: st) h cs ss Post :=
  fun p e s m args below meth c ls H locs F hl hR hS h1 h2 => lv_i2c F.1 F.2.1 hd rfl (k p e s m args below meth c ls H locs F hl hR hS h1 h2)
theorem ev_i2l {x : Int32} (hd : decode r.2.1 pc = .ok (.i2l, 1)) (k : Ev G r (pc + 1) L (.long (x.toInt64) :: st) h cs ss Post) : Ev G r pc L (.int x :: st) h cs ss Post :=
  fun p e s m args below meth c ls H locs F hl hR hS h1 h2 => lv_i2l F.1 F.2.1 hd rfl (k p e s m args below meth c ls H locs F hl hR hS h1 h2)
theorem ev_lconst {n : Fin 2} {v : Int64} (hd : decode r.2.1 pc = .ok (.lconst n, 1)) (hv : Int64.ofNat (n : Nat) = v) (k : Ev G r (pc + 1) L (.long v :: st) h cs ss Post) : Ev G r pc L st h cs ss Post :=
  fun p e s m args below meth c ls H locs F hl hR hS h1 h2 => lv_lconst F.1 F.2.1 hd hv (k p e s m args below meth c ls H locs F hl hR hS h1 h2)
theorem ev_lcmp {x y : Int64} (hd : decode r.2.1 pc = .ok (.lcmp, 1)) (k : Ev G r (pc + 1) L (.int (lg_cmp x y) :: st) h cs ss Post) : Ev G r pc L (.long y :: .long x :: st) h cs ss Post :=
  fun p e s m args below meth c ls H locs F hl hR hS h1 h2 => W.lcmp F.1 F.2.1 hd (k p e s m args below meth c ls H locs F hl hR hS h1 h2)
theorem ev_dup {v : Value} (hd : decode r.2.1 pc = .ok (.dup, 1)) (hv : v.category = 1) (k : Ev G r (pc + 1) L (v :: v :: st) h cs ss Post) : Ev G r pc L (v :: st) h cs ss Post :=
  fun p e s m args below meth c ls H locs F hl hR hS h1 h2 => lv_dup F.1 F.2.1 hd hv (k p e s m args below meth c ls H locs F hl hR hS h1 h2)
theorem ev_dup2 {v w : Value} (hd : decode r.2.1 pc = .ok (.dup2, 1)) (hv : v.category = 1) (hw : w.category = 1) (k : Ev G r (pc + 1) L (v :: w :: v :: w :: st) h cs ss Post) : Ev G r pc L (v :: w :: st) h cs ss Post :=
  fun p e s m args below meth c ls H locs F hl hR hS h1 h2 => lv_dup2_11 F.1 F.2.1 hd hv hw (k p e s m args below meth c ls H locs F hl hR hS h1 h2)
theorem ev_pop {v : Value} (hd : decode r.2.1 pc = .ok (.pop, 1)) (hv : v.category = 1) (k : Ev G r (pc + 1) L st h cs ss Post) : Ev G r pc L (v :: st) h cs ss Post :=
  fun p e s m args below meth c ls H locs F hl hR hS h1 h2 => lv_pop F.1 F.2.1 hd hv (k p e s m args below meth c ls H locs F hl hR hS h1 h2)
theorem ev_goto {off : Int} {tgt : Nat} (hd : decode r.2.1 pc = .ok (.goto off, 3)) (ht : (pc : Int) + off = (tgt : Int)) (k : Ev G r tgt L st h cs ss Post) : Ev G r pc L st h cs ss Post :=
  fun p e s m args below meth c ls H locs F hl hR hS h1 h2 => lv_goto F.1 F.2.1 hd ht (k p e s m args below meth c ls H locs F hl hR hS h1 h2)
theorem ev_if_eq {x : Int32} {off : Int} {tgt : Nat} (hd : decode r.2.1 pc = .ok (.ifCond .eq off, 3)) (ht : (pc : Int) + off = (tgt : Int)) (kt : x = 0 → Ev G r tgt L st h cs ss Post) (kf : ¬ x = 0 → Ev G r (pc + 3) L st h cs ss Post) : Ev G r pc L (.int x :: st) h cs ss Post :=
  fun p e s m args below meth c ls H locs F hl hR hS h1 h2 => lv_if_eq F.1 F.2.1 hd ht (fun q => kt q p e s m args below meth c ls H locs F hl hR hS h1 h2) (fun q => kf q p e s m args below meth c ls H locs F hl hR hS h1 h2)
theorem ev_icmp_eq {x y : Int32} {off : Int} {tgt : Nat} (hd : decode r.2.1 pc = .ok (.if_icmp .eq off, 3)) (ht : (pc : Int) + off = (tgt : Int)) (kt : x = y → Ev G r tgt L st h cs ss Post) (kf : ¬ x = y → Ev G r (pc + 3) L st h cs ss Post) : Ev G r pc L (.int y :: .int x :: st) h cs ss Post :=
  fun p e s m args below meth c ls H locs F hl hR hS h1 h2 => lv_icmp_eq F.1 F.2.1 hd ht (fun q => kt q p e s m args below meth c ls H locs F hl hR hS h1 h2) (fun q => kf q p e s m args below meth c ls H locs F hl hR hS h1 h2)
theorem ev_if_ne {x : Int32} {off : Int} {tgt : Nat} (hd : decode r.2.1 pc = .ok (.ifCond .ne off, 3)) (ht : (pc : Int) + off = (tgt : Int)) (kt : ¬ x = 0 → Ev G r tgt L st h cs ss Post) (kf : x = 0 → Ev G r (pc + 3) L st h cs ss Post) : Ev G r pc L (.int x :: st) h cs ss Post :=
  fun p e s m args below meth c ls H locs F hl hR hS h1 h2 => lv_if_ne F.1 F.2.1 hd ht (fun q => kt q p e s m args below meth c ls H locs F hl hR hS h1 h2) (fun q => kf q p e s m args below meth c ls H locs F hl hR hS h1 h2)
theorem ev_icmp_ne {x y : Int32} {off : Int} {tgt : Nat} (hd : decode r.2.1 pc = .ok (.if_icmp .ne off, 3)) (ht : (pc : Int) + off = (tgt : Int)) (kt : ¬ x = y → Ev G r tgt L st h cs ss Post) (kf : x = y → Ev G r (pc + 3) L st h cs ss Post) : Ev G r pc L (.int y :: .int x :: st) h cs ss Post :=
  fun p e s m args below meth c ls H locs F hl hR hS h1 h2 => lv_icmp_ne F.1 F.2.1 hd ht (fun q => kt q p e s m args below meth c ls H locs F hl hR hS h1 h2) (fun q => kf q p e s m args below meth c ls H locs F hl hR hS h1 h2)
theorem ev_if_lt {x : Int32} {off : Int} {tgt : Nat} (hd : decode r.2.1 pc = .ok (.ifCond .lt off, 3)) (ht : (pc : Int) + off = (tgt : Int)) (kt : x < 0 → Ev G r tgt L st h cs ss Post) (kf : ¬ x < 0 → Ev G r (pc + 3) L st h cs ss Post) : Ev G r pc L (.int x :: st) h cs ss Post :=
  fun p e s m args below meth c ls H locs F hl hR hS h1 h2 => lv_if_lt F.1 F.2.1 hd ht (fun q => kt q p e s m args below meth c ls H locs F hl hR hS h1 h2) (fun q => kf q p e s m args below meth c ls H locs F hl hR hS h1 h2)
theorem ev_icmp_lt {x y : Int32} {off : Int} {tgt : Nat} (hd : decode r.2.1 pc = .ok (.if_icmp .lt off, 3)) (ht : (pc : Int) + off = (tgt : Int)) (kt : x < y → Ev G r tgt L st h cs ss Post) (kf : ¬ x < y → Ev G r (pc + 3) L st h cs ss Post) : Ev G r pc L (.int y :: .int x :: st) h cs ss Post :=
  fun p e s m args below meth c ls H locs F hl hR hS h1 h2 => lv_icmp_lt F.1 F.2.1 hd ht (fun q => kt q p e s m args below meth c ls H locs F hl hR hS h1 h2) (fun q => kf q p e s m args below meth c ls H locs F hl hR hS h1 h2)
theorem ev_if_ge {x : Int32} {off : Int} {tgt : Nat} (hd : decode r.2.1 pc = .ok (.ifCond .ge off, 3)) (ht : (pc : Int) + off = (tgt : Int)) (kt : 0 ≤ x → Ev G r tgt L st h cs ss Post) (kf : ¬ 0 ≤ x → Ev G r (pc + 3) L st h cs ss Post) : Ev G r pc L (.int x :: st) h cs ss Post :=
  fun p e s m args below meth c ls H locs F hl hR hS h1 h2 => lv_if_ge F.1 F.2.1 hd ht (fun q => kt q p e s m args below meth c ls H locs F hl hR hS h1 h2) (fun q => kf q p e s m args below meth c ls H locs F hl hR hS h1 h2)
theorem ev_icmp_ge {x y : Int32} {off : Int} {tgt : Nat} (hd : decode r.2.1 pc = .ok (.if_icmp .ge off, 3)) (ht : (pc : Int) + off = (tgt : Int)) (kt : y ≤ x → Ev G r tgt L st h cs ss Post) (kf : ¬ y ≤ x → Ev G r (pc + 3) L st h cs ss Post) : Ev G r pc L (.int y :: .int x :: st) h cs ss Post :=
  fun p e s m args below meth c ls H locs F hl hR hS h1 h2 => lv_icmp_ge F.1 F.2.1 hd ht (fun q => kt q p e s m args below meth c ls H locs F hl hR hS h1 h2) (fun q => kf q p e s m args below meth c ls H locs F hl hR hS h1 h2)
theorem ev_if_gt {x : Int32} {off : Int} {tgt : Nat} (hd : decode r.2.1 pc = .ok (.ifCond .gt off, 3)) (ht : (pc : Int) + off = (tgt : Int)) (kt : 0 < x → Ev G r tgt L st h cs ss Post) (kf : ¬ 0 < x → Ev G r (pc + 3) L st h cs ss Post) : Ev G r pc L (.int x :: st) h cs ss Post :=
  fun p e s m args below meth c ls H locs F hl hR hS h1 h2 => lv_if_gt F.1 F.2.1 hd ht (fun q => kt q p e s m args below meth c ls H locs F hl hR hS h1 h2) (fun q => kf q p e s m args below meth c ls H locs F hl hR hS h1 h2)
theorem ev_icmp_gt {x y : Int32} {off : Int} {tgt : Nat} (hd : decode r.2.1 pc = .ok (.if_icmp .gt off, 3)) (ht : (pc : Int) + off = (tgt : Int)) (kt : y < x → Ev G r tgt L st h cs ss Post) (kf : ¬ y < x → Ev G r (pc + 3) L st h cs ss Post) : Ev G r pc L (.int y :: .int x :: st) h cs ss Post :=
  fun p e s m args below meth c ls H locs F hl hR hS h1 h2 => lv_icmp_gt F.1 F.2.1 hd ht (fun q => kt q p e s m args below meth c ls H locs F hl hR hS h1 h2) (fun q => kf q p e s m args below meth c ls H locs F hl hR hS h1 h2)
theorem ev_if_le {x : Int32} {off : Int} {tgt : Nat} (hd : decode r.2.1 pc = .ok (.ifCond .le off, 3)) (ht : (pc : Int) + off = (tgt : Int)) (kt : x ≤ 0 → Ev G r tgt L st h cs ss Post) (kf : ¬ x ≤ 0 → Ev G r (pc + 3) L st h cs ss Post) : Ev G r pc L (.int x :: st) h cs ss Post :=
  fun p e s m args below meth c ls H locs F hl hR hS h1 h2 => lv_if_le F.1 F.2.1 hd ht (fun q => kt q p e s m args below meth c ls H locs F hl hR hS h1 h2) (fun q => kf q p e s m args below meth c ls H locs F hl hR hS h1 h2)
theorem ev_icmp_le {x y : Int32} {off : Int} {tgt : Nat} (hd : decode r.2.1 pc = .ok (.if_icmp .le off, 3)) (ht : (pc : Int) + off = (tgt : Int)) (kt : x ≤ y → Ev G r tgt L st h cs ss Post) (kf : ¬ x ≤ y → Ev G r (pc + 3) L st h cs ss Post) : Ev G r pc L (.int y :: .int x :: st) h cs ss Post :=
  fun p e s m args below meth c ls H locs F hl hR hS h1 h2 => lv_icmp_le F.1 F.2.1 hd ht (fun q => kt q p e s m args below meth c ls H locs F hl hR hS h1 h2) (fun q => kf q p e s m args below meth c ls H locs F hl hR hS h1 h2)
theorem ev_acmp_eq {x y : Nat} {off : Int} {tgt : Nat} (hd : decode r.2.1 pc = .ok (.if_acmp .eq off, 3)) (ht : (pc : Int) + off = (tgt : Int)) (kt : x = y → Ev G r tgt L st h cs ss Post) (kf : ¬ x = y → Ev G r (pc + 3) L st h cs ss Post) : Ev G r pc L (.ref y :: .ref x :: st) h cs ss Post :=
  fun p e s m args below meth c ls H locs F hl hR hS h1 h2 => lv_acmp_eq (rx := some x) (ry := some y) F.1 F.2.1 hd ht (fun q => kt (Option.some.inj q) p e s m args below meth c ls H locs F hl hR hS h1 h2) (fun q => kf (fun z => q (congrArg some z)) p e s m args below meth c ls H locs F hl hR hS h1 h2)
theorem ev_acmp_ne {x y : Nat} {off : Int} {tgt : Nat} (hd : decode r.2.1 pc = .ok (.if_acmp .ne off, 3)) (ht : (pc : Int) + off = (tgt : Int)) (kt : ¬ x = y → Ev G r tgt L st h cs ss Post) (kf : x = y → Ev G r (pc + 3) L st h cs ss Post) : Ev G r pc L (.ref y :: .ref x :: st) h cs ss Post :=
  fun p e s m args below meth c ls H locs F hl hR hS h1 h2 => lv_acmp_ne (rx := some x) (ry := some y) F.1 F.2.1 hd ht (fun q => kt (fun z => q (congrArg some z)) p e s m args below meth c ls H locs F hl hR hS h1 h2) (fun q => kf (Option.some.inj q) p e s m args below meth c ls H locs F hl hR hS h1 h2)
theorem ev_tabOut {dflt lo hi : Int} {offs : Array Int} {len : Nat} {x : Int32} {tgt : Nat} (hd : decode r.2.1 pc = .ok (.tableswitch dflt lo hi offs, len)) (hx : x.toInt < lo ∨ hi < x.toInt) (ht : (pc : Int) + dflt = (tgt : Int)) (k : Ev G r tgt L st h cs ss Post) : Ev G r pc L (.int x :: st) h cs ss Post :=
  fun p e s m args below meth c ls H locs F hl hR hS h1 h2 => lv_tableOut F.1 F.2.1 hd hx ht (k p e s m args below meth c ls H locs F hl hR hS h1 h2)
theorem ev_tabIn {dflt lo hi : Int} {offs : Array Int} {len : Nat} {x : Int32} {off : Int} {tgt : Nat} (hd : decode r.2.1 pc = .ok (.tableswitch dflt lo hi offs, len)) (ha : ¬ x.toInt < lo) (hb : ¬ hi < x.toInt) (ho : offs[(x.toInt - lo).toNat]? = some off) (ht : (pc : Int) + off = (tgt : Int)) (k : Ev G r tgt L st h cs ss Post) : Ev G r pc L (.int x :: st) h cs ss Post :=
  fun p e s m args below meth c ls H locs F hl hR hS h1 h2 => lv_tableIn F.1 F.2.1 hd ha hb ho ht (k p e s m args below meth c ls H locs F hl hR hS h1 h2)
theorem Ev.kill (d : Nat) (k : Ev G r pc (L.set d un) st h cs ss Post) : Ev G r pc L st h cs ss Post :=
  fun p e s m args below meth c ls H locs F hl hR hS h1 h2 => k p e s m args below meth c ls H locs F (hl.kill d) hR hS h1 h2
theorem Ev.kills (ds : List Nat) : ∀ (L : List Value), Ev G r pc (ds.foldl (fun L d => L.set d un) L) st h cs ss Post → Ev G r pc L st h cs ss Post := by
  induction ds with
  | nil => exact fun _ k => k
  | cons d ds ih => exact fun L k => Ev.kill d (ih _ k)
/-- the end: an int, a boolean, a byte, a char; a reference; nothing -/
theorem ev_iret {v : Int32} {ty : FieldType} (ht : r.rt = some ty) (hn : narrow ty (.int v) = .int v) (hd : decode r.2.1 pc = .ok (.ireturn, 1)) (k : Post (.inl (some (.int v))) h) : Ev G r pc L [.int v] h cs ss Post := by
  intro p e s m args below meth c ls H locs F hl hR hS h1 h2
  have hlocks := F.2.2.2.2.2.2.1
  refine W.widen (k := r.mc) (n := r.ms) h1 h2 (vx_ret ?_)
  exact W.zret F.1 F.2.1 (F.2.2.1.trans ht) hn (fun t ht hW => ⟨some (.int v), h, rfl, k, by rw [ht]; exact hR.moved hW.alike, hS.F ht⟩) hS.2.2 hd
theorem ev_aret {a : Nat} {n : String} (ht : r.rt = some (.object n)) (hd : decode r.2.1 pc = .ok (.areturn, 1)) (k : Post (.inl (some (.ref a))) h) : Ev G r pc L [.ref a] h cs ss Post := by
  intro p e s m args below meth c ls H locs F hl hR hS h1 h2
  have hlocks := F.2.2.2.2.2.2.1
  refine W.widen (k := r.mc) (n := r.ms) h1 h2 (vx_ret ?_)
  exact W.aret F.1 F.2.1 (F.2.2.1.trans ht) (Or.inl ⟨n, rfl⟩) (Or.inr ⟨a, rfl⟩) (fun t ht hW => ⟨some (.ref a), h, rfl, k, by rw [ht]; exact hR.moved hW.alike, hS.F ht⟩) hS.2.2 hd
theorem ev_vret (ht : r.rt = none) (hd : decode r.2.1 pc = .ok (.return_, 1)) (k : Post (.inl none) h) : Ev G r pc L [] h cs ss Post := by
  intro p e s m args below meth c ls H locs F hl hR hS h1 h2
  have hlocks := F.2.2.2.2.2.2.1
  refine W.widen (k := r.mc) (n := r.ms) h1 h2 (vx_ret ?_)
  exact W.vret F.1 F.2.1 (F.2.2.1.trans ht) (fun t ht hW => ⟨none, h, rfl, k, by rw [ht]; exact hR.moved hW.alike, hS.F ht⟩) hS.2.2 hd
end EVR
end
section
/-! ===== rows that read and write the heap ===== -/
def hset (h : Hp) (a k : Nat) (v : Value) : Hp := (h.1, fun b j => if b = a ∧ j = k then v else h.2.1 b j, h.2.2)
def hnew (h : Hp) (q : Nat × Nat) (f : Nat → Value) : Hp := (fun b => if b = h.2.2 then q else h.1 b, fun b j => if b = h.2.2 then f j else h.2.1 b j, h.2.2 + 1)
theorem hset_ne {h : Hp} {a k b : Nat} {v : Value} (hb : b ≠ a) : (hset h a k v).2.1 b = h.2.1 b := by
  funext j
  simp [hset, hb]
theorem cok.kept {G : Gx} {U : State} {H H1 : Heap} {a : Nat} {q : Nat × Nat} {f : Nat → Value} (hq : H1[a]? = H[a]?) (h : cok G U H a q f) : cok G U H1 a q f := by
  refine ⟨fun h1 h2 => ?_, fun h1 => ?_⟩
  · obtain ⟨r, e1, e2, e3⟩ := h.1 h1 h2
    exact ⟨r, e1, e2, e3.kept hq⟩
  · obtain ⟨cell, h2, h3⟩ := h.2 h1
    exact ⟨cell, by rw [hq]; exact h2, h3⟩
theorem Rel.obj {G : Gx} {h : Hp} {U : State} {H : Heap} (hR : Rel G h U H) {a ci N : Nat} {C : String} {T : u_T} (hc : cls[ci]? = some (C, T, N)) (hkd : (h.1 a).1 = ci + 1) (hci : ci < 100) : t_OB a (G.2.1.1 ci) N (G.2.1.2 ci) H (h.2.1 a) := by
  obtain ⟨r, e1, e2, e3⟩ := (hR.2.2 a).1 (by omega) (by omega)
  rw [hkd, Nat.add_sub_cancel] at e1 e3
  cases hc.symm.trans e1
  exact e3
theorem Rel.arr {G : Gx} {h : Hp} {U : State} {H : Heap} (hR : Rel G h U H) {a j n : Nat} (hkd : h.1 a = (101 + j, n)) : ∃ cell : Cell, H[a]? = some cell ∧ U.isArrayOf cell (aty j) ∧ cell.vm ≠ .unknown ∧ cell.slots.size = n ∧ n < 2 ^ 31 ∧ (∀ i, i < n → cell.slots[i]? = some (h.2.1 a i)) ∧ (G.n0 ≤ a → va_RA U cell.cls (aty j)) := by
  have := (hR.2.2 a).2 (by rw [hkd]; show 100 < 101 + j; omega)
  rw [hkd, show (101 + j, n).1 - 101 = j from by show 101 + j - 101 = j; omega] at this
  exact this
theorem Rel.putO {G : Gx} {h : Hp} {U : State} {H H1 : Heap} (hR : Rel G h U H) {a ci N k : Nat} {C : String} {T : u_T} {v : Value} (hc : cls[ci]? = some (C, T, N)) (hkd : (h.1 a).1 = ci + 1) (hci : ci < 100) (hsz : H1.size = H.size) (hne : ∀ q, q ≠ a → H1[q]? = H[q]?)
    (hO : t_OB a (G.2.1.1 ci) N (G.2.1.2 ci) H1 (updV (h.2.1 a) k v)) : Rel G (hset h a k v) U H1 := by
  refine ⟨hsz.trans hR.1, hR.2.1, fun b => ?_⟩
  by_cases hb : b = a
  · subst hb
    obtain ⟨r, e1, e2, e3⟩ := (hR.2.2 b).1 (by omega) (by omega)
    rw [hkd, Nat.add_sub_cancel] at e1
    cases hc.symm.trans e1
    refine ⟨fun _ _ => ⟨(C, T, N), ?_, e2, ?_⟩, fun h9 => ?_⟩
    · show cls[(h.1 b).1 - 1]? = _
      rw [hkd, Nat.add_sub_cancel]; exact hc
    · show t_OB b (G.2.1.1 ((h.1 b).1 - 1)) N (G.2.1.2 ((h.1 b).1 - 1)) H1 _
      rw [hkd, Nat.add_sub_cancel]
      refine hO.to (fun j _ => ?_)
      show (if j = k then v else h.2.1 b j) = (if b = b ∧ j = k then v else h.2.1 b j)
      simp
    · have : 100 < (h.1 b).1 := h9
      omega
  · rw [hset_ne hb]
    exact (hR.2.2 b).kept (hne b hb)
theorem Rel.putA {G : Gx} {h : Hp} {U : State} {H H1 : Heap} (hR : Rel G h U H) {a j n k : Nat} {v : Value} {cell : Cell} (hkd : h.1 a = (101 + j, n)) (hsz : H1.size = H.size) (hne : ∀ q, q ≠ a → H1[q]? = H[q]?)
    (hcell : H1[a]? = some cell) (harr : U.isArrayOf cell (aty j)) (hvm : cell.vm ≠ .unknown) (hs : cell.slots.size = n) (hn : n < 2 ^ 31) (hv : ∀ i, i < n → cell.slots[i]? = some (updV (h.2.1 a) k v i)) (hra : G.n0 ≤ a → va_RA U cell.cls (aty j)) : Rel G (hset h a k v) U H1 := by
  refine ⟨hsz.trans hR.1, hR.2.1, fun b => ?_⟩
  by_cases hb : b = a
  · subst hb
    refine ⟨fun h8 h9 => ?_, fun _ => ⟨cell, hcell, ?_, hvm, ?_, ?_, fun i hi => ?_, fun z => ?_⟩⟩
    · have : (h.1 b).1 ≤ 100 := h9
      rw [hkd] at this
      have : 101 + j ≤ 100 := this
      omega
    · show U.isArrayOf cell (aty ((h.1 b).1 - 101))
      rw [hkd, show (101 + j, n).1 - 101 = j from by show 101 + j - 101 = j; omega]
      exact harr
    · show cell.slots.size = (h.1 b).2
      rw [hkd]; exact hs
    · show (h.1 b).2 < _
      rw [hkd]; exact hn
    · have hi' : i < (h.1 b).2 := hi
      rw [hkd] at hi'
      rw [hv i hi']
      show some (if i = k then v else h.2.1 b i) = some (if b = b ∧ i = k then v else h.2.1 b i)
      simp
    · show va_RA U cell.cls (aty ((h.1 b).1 - 101))
      rw [hkd, show (101 + j, n).1 - 101 = j from by show 101 + j - 101 = j; omega]
      exact hra z
  · rw [hset_ne hb]
    exact (hR.2.2 b).kept (hne b hb)
theorem Rel.fresh {G : Gx} {h : Hp} {U : State} {H H1 : Heap} (hR : Rel G h U H) {q : Nat × Nat} {f : Nat → Value} (hsz : H1.size = H.size + 1) (hne : ∀ b, b < H.size → H1[b]? = H[b]?) (hq : cok G U H1 H.size q f) : Rel G (hnew h q f) U H1 := by
  refine ⟨by rw [hsz, hR.1]; rfl, by show G.n0 ≤ h.2.2 + 1; have := hR.2.1; omega, fun b => ?_⟩
  by_cases hb : b = h.2.2
  · have e1 : (hnew h q f).1 b = q := by simp [hnew, hb]
    have e2 : (hnew h q f).2.1 b = f := by funext j; simp [hnew, hb]
    rw [e1, e2, hb, ← hR.1]
    exact hq
  · have e1 : (hnew h q f).1 b = h.1 b := by simp [hnew, hb]
    have e2 : (hnew h q f).2.1 b = h.2.1 b := by funext j; simp [hnew, hb]
    rw [e1, e2]
    by_cases hlt : b < H.size
    · exact (hR.2.2 b).kept (hne b hlt)
    · have hnone : H[b]? = none := by simpa using Nat.le_of_not_lt hlt
      refine ⟨fun h8 h9 => ?_, fun h9 => ?_⟩
      · obtain ⟨r, -, -, cell, z, -⟩ := (hR.2.2 b).1 h8 h9
        rw [hnone] at z; cases z
      · obtain ⟨cell, z, -⟩ := (hR.2.2 b).2 h9
        rw [hnone] at z; cases z
/-- what programs decide of the table -/
def clsB (q : vw_C) : Bool := (u_ws q.1 q.2.1 q.2.2).all (fun w => decide (w ∈ lw_good)) && (List.range q.2.2).all (fun a => (parseFieldDescriptor (q.2.1 a).2.2.1).isSome && (List.range q.2.2).all (fun b => a == b || decide ((q.2.1 a).2.1 ≠ (q.2.1 b).2.1)))
set_option maxRecDepth 100000 in
theorem clsB_ok : cls.all clsB = true := by decide +kernel
theorem cls_ok {k : Nat} {q : vw_C} (h : cls[k]? = some q) : (∀ w ∈ u_ws q.1 q.2.1 q.2.2, w ∈ lw_good) ∧ (∀ a, a < q.2.2 → ∃ ty, parseFieldDescriptor (q.2.1 a).2.2.1 = some ty) ∧ ∀ a, a < q.2.2 → ∀ b, b < q.2.2 → a ≠ b → (q.2.1 a).2.1 ≠ (q.2.1 b).2.1 := by
  have h1 := List.all_eq_true.mp clsB_ok q (List.mem_of_getElem? h)
  simp only [clsB, Bool.and_eq_true, List.all_eq_true, decide_eq_true_eq, List.mem_range, Bool.or_eq_true, beq_iff_eq] at h1
  refine ⟨h1.1, fun a ha => Option.isSome_iff_exists.mp (h1.2 a ha).1, fun a ha b hb hne => ?_⟩
  rcases (h1.2 a ha).2 b hb with z | z
  · exact absurd z hne
  · exact z
theorem cls_lt {k : Nat} {q : vw_C} (h : cls[k]? = some q) : k < 100 := by
  have := (List.getElem?_eq_some_iff.mp h).1
  have e : cls.length = 11 := rfl
  omega
section EVH
variable {G : Gx} {r : Mr} {pc : Nat} {L st : List Value} {h : Hp} {cs ss : Nat} {Post : Res → Hp → Prop}
theorem ev_getf {ci k idx N a : Nat} {C : String} {T : u_T} {v : Value} (hc : cls[ci]? = some (C, T, N)) (hk : k < N) (hw : Cond.fieldLink r.1.cls idx (T k).1 (T k).2.1 (T k).2.2.1 ∈ lw_good) (hd : decode r.2.1 pc = .ok (.getfield idx, 3)) (hkd : (h.1 a).1 = ci + 1) (hv : h.2.1 a k = v)
    (kk : Ev G r (pc + 3) L (v :: st) h cs ss Post) : Ev G r pc L (.ref a :: st) h cs ss Post := by
  intro p e s m args below meth c ls H locs F hl hR hS h1 h2
  obtain ⟨cell, q1, q2, q3, q4⟩ := hR.obj hc hkd (cls_lt hc)
  obtain ⟨hSl, hfc, kC, hkC, hkind⟩ := F.2.2.2.2.2.2.2.2.1.2.1 ci _ hc
  obtain ⟨cf, kf, fi, f, hi, hsl⟩ := hSl k hk
  have hts := F.2.2.2.2.2.1
  refine W.getf F.1 F.2.1 F.2.2.2.2.1 (hts _ hw) hi (u_facts hfc hkC (u_lays hts (cls_ok hc).1 hk) hi).1 q1 (by rw [q3]; exact fun h => by cases h) (v := v) ?_ rfl rfl hd (kk p e s m args below meth c ls H locs F hl hR hS h1 h2)
  rw [hsl, q4 k hk, hv]
theorem cls_apart {s : State} {args : Array Value} (hts : ∀ w ∈ lw_good, w.before args s = true) (hG : Gok G s) {ci N : Nat} {C : String} {T : u_T} (hc : cls[ci]? = some (C, T, N)) : ∀ x y, x < N → y < N → x ≠ y → (G.2.1.2 ci) x ≠ (G.2.1.2 ci) y := by
  intro x y hx hy hne
  obtain ⟨hS, -⟩ := hG.2.1 ci _ hc
  obtain ⟨_, _, _, fa, hia, ea⟩ := hS x hx
  obtain ⟨_, _, _, fb, hib, eb⟩ := hS y hy
  obtain ⟨tx, htx⟩ := (cls_ok hc).2.1 x hx
  obtain ⟨ty, hty⟩ := (cls_ok hc).2.1 y hy
  rw [← ea, ← eb]
  refine u_apart (u_lays hts (cls_ok hc).1 hx) (u_lays hts (cls_ok hc).1 hy) hia hib ?_
  rw [(State.fieldFound?_type hia htx).1, (State.fieldFound?_type hib hty).1]
  exact (cls_ok hc).2.2 x hx y hy hne
theorem ev_putf {ci k idx N a : Nat} {C : String} {T : u_T} {v : Value} {ty : FieldType} (hc : cls[ci]? = some (C, T, N)) (hk : k < N) (hw : Cond.fieldLink r.1.cls idx (T k).1 (T k).2.1 (T k).2.2.1 ∈ lw_good) (hfin : (T k).2.2.2 = false) (hty : parseFieldDescriptor (T k).2.2.1 = some ty) (hn : narrow ty v = v) (hf : fits ty v = true) (hd : decode r.2.1 pc = .ok (.putfield idx, 3)) (ha : G.n0 ≤ a) (hkd : (h.1 a).1 = ci + 1)
    (kk : Ev G r (pc + 3) L st (hset h a k v) cs ss Post) : Ev G r pc L (v :: .ref a :: st) h cs ss Post := by
  intro p e s m args below meth c ls H locs F hl hR hS h1 h2
  obtain ⟨cell, q1, q2, q3, q4⟩ := hR.obj hc hkd (cls_lt hc)
  have hts := F.2.2.2.2.2.1
  have hap := cls_apart hts F.2.2.2.2.2.2.2.2.1 hc
  obtain ⟨hSl, hfc, kC, hkC, hkind⟩ := F.2.2.2.2.2.2.2.2.1.2.1 ci _ hc
  obtain ⟨cf, kf, fi, f, hi, hsl⟩ := hSl k hk
  have hlay := hts _ ((cls_ok hc).1 _ (u_in_lay hk))
  unfold u_lay at hlay
  rw [if_neg (by rw [hfin]; decide)] at hlay
  have hst := (u_facts hfc hkC (u_lays hts (cls_ok hc).1 hk) hi).1
  have h6 := u_store hfc hkC hkind hlay hi hty hn hf
  refine W.putK F.1 F.2.1 (f := f) ⟨F.2.2.2.2.1, hts _ hw, ⟨_, _, _, hi⟩, hst⟩ (by rw [q2]; exact h6) q1 q3 (by rw [hsl]; exact k2_hasslot (q4 k hk)) rfl rfl hd fun H' e1 e2 e3 => ?_
  rw [hsl] at e1 ⊢
  exact kk p e s m args below meth c ls H' _ F hl (hR.putO hc hkd (cls_lt hc) e2 e3 ⟨_, e1, q2, q3, t_set q4 hap hk v⟩) (hS.put e2 e3 ha) h1 h2
theorem ev_putF {ci k idx N a : Nat} {C : String} {T : u_T} {v : Value} {ty : FieldType} (hc : cls[ci]? = some (C, T, N)) (hk : k < N) (hw : Cond.fieldLink r.1.cls idx (T k).1 (T k).2.1 (T k).2.2.1 ∈ lw_good) (hfin : (T k).2.2.2 = true) (hin : r.1.name = "<init>") (hdecl : (T k).1 = r.1.cls) (hty : parseFieldDescriptor (T k).2.2.1 = some ty) (hn : narrow ty v = v) (hf : fits ty v = true) (hd : decode r.2.1 pc = .ok (.putfield idx, 3)) (ha : G.n0 ≤ a) (hkd : (h.1 a).1 = ci + 1)
    (kk : Ev G r (pc + 3) L st (hset h a k v) cs ss Post) : Ev G r pc L (v :: .ref a :: st) h cs ss Post := by
  intro p e s m args below meth c ls H locs F hl hR hS h1 h2
  obtain ⟨cell, q1, q2, q3, q4⟩ := hR.obj hc hkd (cls_lt hc)
  have hts := F.2.2.2.2.2.1
  have hown := F.2.2.2.2.1
  have hap := cls_apart hts F.2.2.2.2.2.2.2.2.1 hc
  obtain ⟨hSl, hfc, kC, hkC, hkind⟩ := F.2.2.2.2.2.2.2.2.1.2.1 ci _ hc
  obtain ⟨cf, kf, fi, f, hi, hsl⟩ := hSl k hk
  have hlay := hts _ ((cls_ok hc).1 _ (u_in_lay hk))
  unfold u_lay at hlay
  rw [if_pos hfin] at hlay
  have hst := (u_facts hfc hkC (u_lays hts (cls_ok hc).1 hk) hi).1
  have hcf : m.cls = cf := by
    obtain ⟨_, _, c', _, _, _, -, -, hf', -, -, -, hown2, -⟩ := Cond.laysFinal_spec hlay
    have e1 : c' = cf := by have := hi.symm.trans hf'; simp at this; exact this.1.symm
    rw [hdecl] at hown2
    rw [← e1]; exact Option.some.inj (hown.symm.trans hown2)
  have h6 := u_fits hfc hkC hkind (Or.inr hlay) hi hty hn hf
  refine W.putFinK F.1 F.2.1 hown (hts _ hw) hi hst hcf (F.2.2.2.2.2.2.2.1.trans hin) (by rw [q2]; exact h6) q1 q3 (by rw [hsl]; exact k2_hasslot (q4 k hk)) rfl rfl hd fun H' e1 e2 e3 => ?_
  rw [hsl] at e1 ⊢
  exact kk p e s m args below meth c ls H' _ F hl (hR.putO hc hkd (cls_lt hc) e2 e3 ⟨_, e1, q2, q3, t_set q4 hap hk v⟩) (hS.put e2 e3 ha) h1 h2
theorem not_out {i : Int32} {n m : Nat} (hin : vp_in i n) (e : m = n) : ¬ (i < 0 ∨ m ≤ i.toNatClampNeg) := by subst e; exact hin
theorem vp_in_lt {i : Int32} {n : Nat} (hin : vp_in i n) : i.toNatClampNeg < n := Nat.lt_of_not_le (fun z => hin (Or.inr z))
theorem ev_iald {a n : Nat} {i : Int32} {v : Value} (hkd : h.1 a = (101, n)) (hin : vp_in i n) (hv : h.2.1 a i.toNatClampNeg = v) (hd : decode r.2.1 pc = .ok (.iaload, 1)) (kk : Ev G r (pc + 1) L (v :: st) h cs ss Post) : Ev G r pc L (.int i :: .ref a :: st) h cs ss Post := by
  intro p e s m args below meth c ls H locs F hl hR hS h1 h2
  obtain ⟨cell, q1, q2, q3, q4, q5, q6, q7⟩ := hR.arr (j := 0) hkd
  exact W.iald F.1 F.2.1 q1 q2 q3 (not_out hin q4) (by rw [q6 _ (vp_in_lt hin), hv]) rfl rfl hd (kk p e s m args below meth c ls H locs F hl hR hS h1 h2)
theorem ev_zald {a n : Nat} {i : Int32} {v : Value} (hkd : h.1 a = (102, n)) (hin : vp_in i n) (hv : h.2.1 a i.toNatClampNeg = v) (hd : decode r.2.1 pc = .ok (.baload, 1)) (kk : Ev G r (pc + 1) L (v :: st) h cs ss Post) : Ev G r pc L (.int i :: .ref a :: st) h cs ss Post := by
  intro p e s m args below meth c ls H locs F hl hR hS h1 h2
  obtain ⟨cell, q1, q2, q3, q4, q5, q6, q7⟩ := hR.arr (j := 1) hkd
  exact W.zald F.1 F.2.1 q1 q2 q3 (not_out hin q4) (by rw [q6 _ (vp_in_lt hin), hv]) rfl rfl hd (kk p e s m args below meth c ls H locs F hl hR hS h1 h2)
theorem ev_bald {a n : Nat} {i : Int32} {v : Value} (hkd : h.1 a = (103, n)) (hin : vp_in i n) (hv : h.2.1 a i.toNatClampNeg = v) (hd : decode r.2.1 pc = .ok (.baload, 1)) (kk : Ev G r (pc + 1) L (v :: st) h cs ss Post) : Ev G r pc L (.int i :: .ref a :: st) h cs ss Post := by
  intro p e s m args below meth c ls H locs F hl hR hS h1 h2
  obtain ⟨cell, q1, q2, q3, q4, q5, q6, q7⟩ := hR.arr (j := 2) hkd
  exact W.bald F.1 F.2.1 q1 q2 q3 (not_out hin q4) (by rw [q6 _ (vp_in_lt hin), hv]) rfl rfl hd (kk p e s m args below meth c ls H locs F hl hR hS h1 h2)
theorem ev_lald {a n : Nat} {i : Int32} {v : Value} (hkd : h.1 a = (104, n)) (hin : vp_in i n) (hv : h.2.1 a i.toNatClampNeg = v) (hd : decode r.2.1 pc = .ok (.laload, 1)) (kk : Ev G r (pc + 1) L (v :: st) h cs ss Post) : Ev G r pc L (.int i :: .ref a :: st) h cs ss Post := by
  intro p e s m args below meth c ls H locs F hl hR hS h1 h2
  obtain ⟨cell, q1, q2, q3, q4, q5, q6, q7⟩ := hR.arr (j := 3) hkd
  exact W.lald F.1 F.2.1 q1 q2 q3 (not_out hin q4) (by rw [q6 _ (vp_in_lt hin), hv]) rfl rfl hd (kk p e s m args below meth c ls H locs F hl hR hS h1 h2)
theorem aty_ref {j : Nat} (hj : 4 ≤ j) : (aty j).isReference = true := by
  unfold aty
  split <;> first | omega | rfl
theorem ev_aald {a n j : Nat} {i : Int32} {v : Value} (hj : 4 ≤ j) (hkd : h.1 a = (101 + j, n)) (hin : vp_in i n) (hv : h.2.1 a i.toNatClampNeg = v) (hd : decode r.2.1 pc = .ok (.aaload, 1)) (kk : Ev G r (pc + 1) L (v :: st) h cs ss Post) : Ev G r pc L (.int i :: .ref a :: st) h cs ss Post := by
  intro p e s m args below meth c ls H locs F hl hR hS h1 h2
  obtain ⟨cell, q1, q2, q3, q4, q5, q6, q7⟩ := hR.arr (j := j) hkd
  exact W.aald F.1 F.2.1 q1 q2 (aty_ref hj) q3 (not_out hin q4) (by rw [q6 _ (vp_in_lt hin), hv]) rfl rfl hd (kk p e s m args below meth c ls H locs F hl hR hS h1 h2)
theorem ev_alen {a n j : Nat} {v : Int32} (hkd : h.1 a = (101 + j, n)) (hv : n.toInt32 = v) (hd : decode r.2.1 pc = .ok (.arraylength, 1)) (kk : Ev G r (pc + 1) L (.int v :: st) h cs ss Post) : Ev G r pc L (.ref a :: st) h cs ss Post := by
  intro p e s m args below meth c ls H locs F hl hR hS h1 h2
  obtain ⟨cell, q1, q2, q3, q4, q5, q6, q7⟩ := hR.arr (j := j) hkd
  exact W.alen F.1 F.2.1 q1 q2 (by rw [q4]; exact hv) rfl rfl hd (kk p e s m args below meth c ls H locs F hl hR hS h1 h2)
theorem set_get {cell : Cell} {k n : Nat} {v : Value} {f : Nat → Value} (hs : cell.slots.size = n) (hk : k < n) (hv : ∀ i, i < n → cell.slots[i]? = some (f i)) : ∀ i, i < n → (cell.setSlot k v).slots[i]? = some (updV f k v i) := by
  intro i hi
  by_cases hik : i = k
  · subst hik
    simp [Cell.setSlot, updV, hs, hi]
  · simp [Cell.setSlot, updV, hik, Array.getElem?_setIfInBounds, Ne.symm hik, hv i hi]
theorem isArr_set {U : State} {cell : Cell} {ty : FieldType} {k : Nat} {v : Value} (h : U.isArrayOf cell ty) : U.isArrayOf (cell.setSlot k v) ty := h
theorem ev_iast {a n : Nat} {i x : Int32} (ha : G.n0 ≤ a) (hkd : h.1 a = (101, n)) (hin : vp_in i n) (hd : decode r.2.1 pc = .ok (.iastore, 1)) (kk : Ev G r (pc + 1) L st (hset h a i.toNatClampNeg (.int x)) cs ss Post) : Ev G r pc L (.int x :: .int i :: .ref a :: st) h cs ss Post := by
  intro p e s m args below meth c ls H locs F hl hR hS h1 h2
  obtain ⟨cell, q1, q2, q3, q4, q5, q6, q7⟩ := hR.arr (j := 0) hkd
  refine W.iast F.1 F.2.1 q1 q2 q3 (not_out hin q4) rfl rfl hd fun H' e1 e2 e3 => ?_
  exact kk p e s m args below meth c ls H' _ F hl (hR.putA (j := 0) hkd e2 e3 e1 (isArr_set q2) q3 (by rw [k2_slotsz]; exact q4) q5 (set_get q4 (vp_in_lt hin) q6) q7) (hS.put e2 e3 ha) h1 h2
theorem ev_last {a n : Nat} {i : Int32} {x : Int64} (ha : G.n0 ≤ a) (hkd : h.1 a = (104, n)) (hin : vp_in i n) (hd : decode r.2.1 pc = .ok (.lastore, 1)) (kk : Ev G r (pc + 1) L st (hset h a i.toNatClampNeg (.long x)) cs ss Post) : Ev G r pc L (.long x :: .int i :: .ref a :: st) h cs ss Post := by
  intro p e s m args below meth c ls H locs F hl hR hS h1 h2
  obtain ⟨cell, q1, q2, q3, q4, q5, q6, q7⟩ := hR.arr (j := 3) hkd
  refine W.last F.1 F.2.1 q1 q2 q3 (not_out hin q4) rfl rfl hd fun H' e1 e2 e3 => ?_
  exact kk p e s m args below meth c ls H' _ F hl (hR.putA (j := 3) hkd e2 e3 e1 (isArr_set q2) q3 (by rw [k2_slotsz]; exact q4) q5 (set_get q4 (vp_in_lt hin) q6) q7) (hS.put e2 e3 ha) h1 h2
theorem ev_zast {a n : Nat} {i x : Int32} (hn : narrow .boolean (.int x) = .int x) (ha : G.n0 ≤ a) (hkd : h.1 a = (102, n)) (hin : vp_in i n) (hd : decode r.2.1 pc = .ok (.bastore, 1)) (kk : Ev G r (pc + 1) L st (hset h a i.toNatClampNeg (.int x)) cs ss Post) : Ev G r pc L (.int x :: .int i :: .ref a :: st) h cs ss Post := by
  intro p e s m args below meth c ls H locs F hl hR hS h1 h2
  obtain ⟨cell, q1, q2, q3, q4, q5, q6, q7⟩ := hR.arr (j := 1) hkd
  refine W.zast F.1 F.2.1 q1 q2 q3 (not_out hin q4) rfl rfl hd fun H' e1 e2 e3 => ?_
  rw [hn] at e1
  exact kk p e s m args below meth c ls H' _ F hl (hR.putA (j := 1) hkd e2 e3 e1 (isArr_set q2) q3 (by rw [k2_slotsz]; exact q4) q5 (set_get q4 (vp_in_lt hin) q6) q7) (hS.put e2 e3 ha) h1 h2
theorem ev_bast {a n : Nat} {i x : Int32} (hn : narrow .byte (.int x) = .int x) (ha : G.n0 ≤ a) (hkd : h.1 a = (103, n)) (hin : vp_in i n) (hd : decode r.2.1 pc = .ok (.bastore, 1)) (kk : Ev G r (pc + 1) L st (hset h a i.toNatClampNeg (.int x)) cs ss Post) : Ev G r pc L (.int x :: .int i :: .ref a :: st) h cs ss Post := by
  intro p e s m args below meth c ls H locs F hl hR hS h1 h2
  obtain ⟨cell, q1, q2, q3, q4, q5, q6, q7⟩ := hR.arr (j := 2) hkd
  refine W.bast F.1 F.2.1 q1 q2 q3 (not_out hin q4) rfl rfl hd fun H' e1 e2 e3 => ?_
  rw [hn] at e1
  exact kk p e s m args below meth c ls H' _ F hl (hR.putA (j := 2) hkd e2 e3 e1 (isArr_set q2) q3 (by rw [k2_slotsz]; exact q4) q5 (set_get q4 (vp_in_lt hin) q6) q7) (hS.put e2 e3 ha) h1 h2
end EVH
end
section
/-! ===== rows that make cells; copies; Object() ===== -/
section EVA
variable {G : Gx} {r : Mr} {pc : Nat} {L st : List Value} {h : Hp} {cs ss : Nat} {Post : Res → Hp → Prop}
theorem ev_new {ci idx N : Nat} {C : String} {T : u_T} {f : Nat → Value} (hc : cls[ci]? = some (C, T, N)) (hw : Cond.classLink r.1.cls idx C ∈ lw_good) (hi : Cond.instantiable C N ∈ lw_good) (hin : Cond.initialized C ∈ lw_good)
    (hf : ∀ k, k < N → ∃ ty, parseFieldDescriptor (T k).2.2.1 = some ty ∧ f k = defaultValue ty) (hd : decode r.2.1 pc = .ok (.new idx, 3)) (hcs : cs + 1 ≤ r.mc) (hss : ss + N ≤ r.ms)
    (kk : Ev G r (pc + 3) L (.ref h.2.2 :: st) (hnew h (ci + 1, N) f) (cs + 1) (ss + N) Post) : Ev G r pc L st h cs ss Post := by
  intro p e s m args below meth c ls H locs F hl hR hS h1 h2
  have hts := F.2.2.2.2.2.1
  have hK := F.2.2.2.2.2.2.2.2.1.2.1 ci _ hc
  refine W.newcK F.1 F.2.1 F.2.2.2.2.1 (hts _ hw) (hts _ hi) (hts _ hin) rfl hd hcs hss hK.2.1 hR.1 fun H' kC g1 g2 g3 g4 => ?_
  have ho : t_OB h.2.2 (G.2.1.1 ci) N (G.2.1.2 ci) H' f := by
    refine ⟨_, g2, rfl, rfl, fun k hk => ?_⟩
    obtain ⟨cf, kf, fi, fd, hfi, he⟩ := hK.1 k hk
    obtain ⟨ty, hty, hfk⟩ := hf k hk
    have h3 := (u_facts hK.2.1 g1 (u_lays hts (cls_ok hc).1 hk) hfi).2.2
    rw [(State.fieldFound?_type hfi hty).2] at h3
    rw [← he, hfk]
    exact k2_blank h3
  refine kk p e s m args below meth c ls H' locs F hl (hR.fresh (by rw [g3, hR.1]) (fun b hb => g4 b (by rw [← hR.1]; exact hb)) ?_) ⟨Nat.le_trans hS.1 (by rw [g3, hR.1]; omega), fun q q1 q2 => (g4 q (by rw [← hR.1]; exact Nat.lt_of_lt_of_le q1 hS.1)).trans (hS.2.1 q q1 q2), hS.2.2⟩ hcs hss
  rw [hR.1]
  refine ⟨fun _ _ => ⟨(C, T, N), ?_, rfl, ?_⟩, fun h9 => ?_⟩
  · show cls[ci + 1 - 1]? = _
    rw [Nat.add_sub_cancel]; exact hc
  · show t_OB h.2.2 (G.2.1.1 (ci + 1 - 1)) N (G.2.1.2 (ci + 1 - 1)) H' f
    rw [Nat.add_sub_cancel]; exact ho
  · have : 100 < ci + 1 := h9
    have := cls_lt hc
    omega
/-- arrays of numbers -/
theorem ev_newa {j : Nat} {at_ : ArrayType} {n : Int32} {N : Nat} {v : Value} (hw : Cond.arrayClass (newarray.typeOf at_) ∈ lw_good) (hj : newarray.typeOf at_ = aty j) (hj4 : j < 4) (hv : defaultValue (aty j) = v) (hn : ¬ n < 0) (hN : n.toNatClampNeg = N) (hb : N * componentBytes (aty j) ≤ 536870912)
    (hd : decode r.2.1 pc = .ok (.newarray at_, 2)) (hcs : cs + 1 ≤ r.mc) (hss : ss + N ≤ r.ms)
    (kk : Ev G r (pc + 2) L (.ref h.2.2 :: st) (hnew h (101 + j, N) (fun _ => v)) (cs + 1) (ss + N) Post) : Ev G r pc L (.int n :: st) h cs ss Post := by
  intro p e s m args below meth c ls H locs F hl hR hS h1 h2
  have hts := F.2.2.2.2.2.1
  have hN31 : N < 2 ^ 31 := by
    rw [← hN]
    have := n.toInt_lt
    have e : (n.toNatClampNeg : Int) = max n.toInt 0 := by
      show ((n.toInt.toNat : Nat) : Int) = _
      omega
    omega
  refine va_newaK F.1 F.2.1 (hts _ hw) rfl hd rfl hn hN (by rw [hj]; exact hb) hcs hss hR.1 fun H' cA g1 g2 g3 g4 g5 => ?_
  refine kk p e s m args below meth c ls H' locs F hl (hR.fresh (by rw [g2, hR.1]) (fun b hb => g3 b (by rw [← hR.1]; exact hb)) ?_) ⟨Nat.le_trans hS.1 (by rw [g2, hR.1]; omega), fun q q1 q2 => (g3 q (by rw [← hR.1]; exact Nat.lt_of_lt_of_le q1 hS.1)).trans (hS.2.1 q q1 q2), hS.2.2⟩ hcs hss
  rw [hR.1]
  refine ⟨fun h8 h9 => ?_, fun _ => ⟨_, g1, ?_, (fun z => nomatch (show VmData.none = VmData.unknown from z)), arrV_size _ _ _, hN31, fun i hi => ?_, fun _ => ?_⟩⟩
  · have : 101 + j ≤ 100 := h9
    omega
  · show s.isArrayOf _ (aty (101 + j - 101))
    rw [show 101 + j - 101 = j by omega, ← hj]
    exact g4 _ _
  · rw [arrV_read _ _ hi, hj, hv]
  · show va_RA s cA (aty (101 + j - 101))
    rw [show 101 + j - 101 = j by omega]
    rw [hj] at g5
    have hcase : j = 0 ∨ j = 1 ∨ j = 2 ∨ j = 3 := by omega
    rcases hcase with rfl | rfl | rfl | rfl <;> exact g5
/-- arrays of references -/
theorem ev_newr {j idx : Nat} {C : String} {n : Int32} {N : Nat} (hw : Cond.classLink r.1.cls idx C ∈ lw_good) (hC : C ∈ aovers) (hj : aty j = .object C) (hn : ¬ n < 0) (hN : n.toNatClampNeg = N) (hb : N * 4 ≤ 536870912)
    (hd : decode r.2.1 pc = .ok (.anewarray idx, 3)) (hcs : cs + 1 ≤ r.mc) (hss : ss + N ≤ r.ms)
    (kk : Ev G r (pc + 3) L (.ref h.2.2 :: st) (hnew h (101 + j, N) (fun _ => .null)) (cs + 1) (ss + N) Post) : Ev G r pc L (.int n :: st) h cs ss Post := by
  intro p e s m args below meth c ls H locs F hl hR hS h1 h2
  have hts := F.2.2.2.2.2.1
  subst hN
  have hN31 : n.toNatClampNeg < 2 ^ 31 := by
    have := n.toInt_lt
    have e : (n.toNatClampNeg : Int) = max n.toInt 0 := by
      show ((n.toInt.toNat : Nat) : Int) = _
      omega
    omega
  refine W.anew F.1 F.2.1 F.2.2.2.2.1 (hts _ hw) (va_AO.use (F.2.2.2.2.2.2.2.2.1.2.2.2.2.2.2.2.2.2.2.1 C hC)) rfl hd rfl hn hb hcs hss fun cA kA comp g1 g2 g3 g4 => ?_
  rw [arrV_new, hR.1]
  have z1 : (H.push (arrV cA n.toNatClampNeg fun _ => .null)).size = H.size + 1 := Array.size_push _
  have z2 : (H.push (arrV cA n.toNatClampNeg fun _ => .null))[H.size]? = some (arrV cA n.toNatClampNeg fun _ => .null) := Array.getElem?_push_size
  have z3 : ∀ q : Nat, q < H.size → (H.push (arrV cA n.toNatClampNeg fun _ => .null))[q]? = H[q]? := fun q hq => by rw [Array.getElem?_push, if_neg (Nat.ne_of_lt hq)]
  refine kk p e s m args below meth c ls _ locs F hl (hR.fresh z1 z3 ?_) ⟨Nat.le_trans hS.1 (by omega), fun q q1 q2 => (z3 q (Nat.lt_of_lt_of_le q1 hS.1)).trans (hS.2.1 q q1 q2), hS.2.2⟩ hcs hss
  refine ⟨fun h8 h9 => ?_, fun _ => ⟨_, z2, ?_, (fun z => nomatch (show VmData.none = VmData.unknown from z)), arrV_size _ _ _, hN31, fun i hi => arrV_read _ _ hi, fun _ => ?_⟩⟩
  · have : 101 + j ≤ 100 := h9
    omega
  · show s.isArrayOf _ (aty (101 + j - 101))
    rw [show 101 + j - 101 = j by omega, hj]
    exact ⟨(fun k z => nomatch (show VmData.none = VmData.statics k from z)), kA, g2, comp, g3⟩
  · show va_RA s cA (aty (101 + j - 101))
    rw [show 101 + j - 101 = j by omega, hj]
    exact ⟨kA, comp, g2, g3, g4, g1⟩
/-- a cell of the classes, or an old object, into an array of references -/
theorem ev_aast {a n j v : Nat} {i : Int32} {C : String} (hj : 4 ≤ j) (hjC : aty j = .object C) (ha : G.n0 ≤ a) (hkd : h.1 a = (101 + j, n)) (hin : vp_in i n) (hv : (∃ (ci N : Nat) (T : u_T), cls[ci]? = some (C, T, N) ∧ (h.1 v).1 = ci + 1) ∨ (∃ o, ocs[o]? = some C ∧ G.oc v = o + 1))
    (hd : decode r.2.1 pc = .ok (.aastore, 1)) (kk : Ev G r (pc + 1) L st (hset h a i.toNatClampNeg (.ref v)) cs ss Post) (hcl : ∀ (s : State) (args : Array Value), Gok G s → (∀ w ∈ lw_good, w.before args s = true) → ∃ cC, ClassAt s C cC) : Ev G r pc L (.ref v :: .int i :: .ref a :: st) h cs ss Post := by
  intro p e s m args below meth c ls H locs F hl hR hS h1 h2
  obtain ⟨cell, q1, q2, q3, q4, q5, q6, q7⟩ := hR.arr (j := j) hkd
  have hra := q7 ha
  rw [hjC] at hra
  obtain ⟨kA, comp, k1, k2, k3, -⟩ := hra
  obtain ⟨cC, hcC⟩ := hcl s args F.2.2.2.2.2.2.2.2.1 F.2.2.2.2.2.1
  have hcomp : comp = cC := Option.some.inj (k3.symm.trans hcC.1)
  subst hcomp
  obtain ⟨kC, hkC, hkind⟩ := hcC.2
  have hcv : ∃ cv : Cell, H[v]? = some cv ∧ (∀ q, cv.vm ≠ .statics q) ∧ cv.cls = comp := by
    rcases hv with ⟨ci, N, T, e1, e2⟩ | ⟨o, e1, e2⟩
    · obtain ⟨cv, g1, g2, g3, -⟩ := hR.obj e1 e2 (cls_lt e1)
      have hk := (F.2.2.2.2.2.2.2.2.1.2.1 ci _ e1).2
      exact ⟨cv, g1, (fun q z => by rw [g3] at z; cases z), by rw [g2]; exact Option.some.inj (hk.1.symm.trans hcC.1)⟩
    · obtain ⟨cv, g1, g2, g3, -⟩ := (F.2.2.2.2.2.2.2.2.1.2.2.2.2.1 o v C e1 e2).kept hS.2.1
      exact ⟨cv, g1, (fun q z => by rw [z] at g2; cases g2), Option.some.inj (g3.symm.trans hcC.1)⟩
  obtain ⟨cv, g1, g2, g3⟩ := hcv
  refine W.aast F.1 F.2.1 q1 q2.1 q3 k1 k2 rfl hkC ⟨fun z => hin (Or.inl z), by rw [q4]; exact vp_in_lt hin⟩ g1 g2 (by rw [g3]; exact hkC) (by rw [g3]; exact va_assign hcC) rfl rfl hd fun H' e1 e2 e3 => ?_
  exact kk p e s m args below meth c ls H' _ F hl (hR.putA (j := j) hkd e2 e3 e1 (isArr_set q2) q3 (by rw [k2_slotsz]; exact q4) q5 (set_get q4 (vp_in_lt hin) q6) q7) (hS.put e2 e3 ha) h1 h2
theorem ev_objInit {a idx : Nat} (hw : Cond.methodLink r.1.cls idx objectInit ∈ lw_good) (hw2 : Cond.instanceMethod objectInit ∈ lw_good) (hw3 : Cond.code objectInit ⟨#[0xb1]⟩ 1 none ∈ lw_good) (hd : decode r.2.1 pc = .ok (.invokespecial idx, 3)) (hdp : 1 ≤ r.dp) (hst : (st.map fun v => v.category).sum ≤ 8)
    (kk : Ev G r (pc + 3) L st h cs ss Post) : Ev G r pc L (.ref a :: st) h cs ss Post := by
  intro p e s m args below meth c ls H locs F hl hR hS h1 h2
  have hts := F.2.2.2.2.2.1
  refine W.objInit F.1 F.2.1 F.2.2.2.2.1 (hts _ hw) (hts _ hw2) (hts _ hw3) rfl (by rw [F.2.2.2.1]; exact hl.1) rfl hd hdp ?_ (kk p e s m args below meth c ls H locs F hl hR hS h1 h2)
  show 2 * 0 + _ + 12 ≤ 64 * r.dp
  omega
end EVA
end
section
/-! ===== copies, clones, calls, entries, throws ===== -/
def hcpy (h : Hp) (a0 a n : Nat) : Hp := (h.1, fun b j => if b = a ∧ j < n then h.2.1 a0 j else h.2.1 b j, h.2.2)
theorem storePairs_get (at_ : Nat) : ∀ (xs : List Value) (k : Nat) (c : Cell) (i : Nat), (c.storePairs at_ (xs.zipIdx k)).slots[i]? = if at_ + k ≤ i ∧ i < at_ + k + xs.length ∧ i < c.slots.size then xs[i - (at_ + k)]? else c.slots[i]?
  | [], k, c, i => by
    rw [if_neg (by simp only [List.length_nil]; omega)]
    rfl
  | x :: xs, k, c, i => by
    rw [List.zipIdx_cons]
    show ((c.setSlot (at_ + k) x).storePairs at_ (xs.zipIdx (k + 1))).slots[i]? = _
    rw [storePairs_get at_ xs (k + 1), k2_slotsz]
    by_cases hik : i = at_ + k
    · subst hik
      rw [if_neg (by omega)]
      by_cases hs : at_ + k < c.slots.size
      · rw [if_pos ⟨Nat.le_refl _, by simp only [List.length_cons]; omega, hs⟩, Nat.sub_self]
        simp [Cell.setSlot, hs]
      · rw [if_neg (by omega)]
        simp [Cell.setSlot, hs]
    · by_cases h : at_ + (k + 1) ≤ i ∧ i < at_ + (k + 1) + xs.length ∧ i < c.slots.size
      · rw [if_pos h, if_pos (by simp only [List.length_cons]; omega)]
        rw [show i - (at_ + k) = (i - (at_ + (k + 1))) + 1 by omega, List.getElem?_cons_succ]
      · rw [if_neg h, if_neg (by simp only [List.length_cons]; omega)]
        simp [Cell.setSlot, Array.getElem?_setIfInBounds, Ne.symm hik]
theorem hcpy_ne {h : Hp} {a0 a n b : Nat} (hb : b ≠ a) : (hcpy h a0 a n).2.1 b = h.2.1 b := by
  funext j
  simp [hcpy, hb]
theorem Rel.cpy {G : Gx} {h : Hp} {U : State} {H H1 : Heap} (hR : Rel G h U H) {a0 a j n k : Nat} {cell : Cell} (hkd : h.1 a = (101 + j, n)) (hsz : H1.size = H.size) (hne : ∀ q, q ≠ a → H1[q]? = H[q]?)
    (hcell : H1[a]? = some cell) (harr : U.isArrayOf cell (aty j)) (hvm : cell.vm ≠ .unknown) (hs : cell.slots.size = n) (hn : n < 2 ^ 31) (hv : ∀ i, i < n → cell.slots[i]? = some (if i < k then h.2.1 a0 i else h.2.1 a i)) (hra : G.n0 ≤ a → va_RA U cell.cls (aty j)) : Rel G (hcpy h a0 a k) U H1 := by
  refine ⟨hsz.trans hR.1, hR.2.1, fun b => ?_⟩
  by_cases hb : b = a
  · subst hb
    refine ⟨fun h8 h9 => ?_, fun _ => ⟨cell, hcell, ?_, hvm, ?_, ?_, fun i hi => ?_, fun z => ?_⟩⟩
    · have : (h.1 b).1 ≤ 100 := h9
      rw [hkd] at this
      have : 101 + j ≤ 100 := this
      omega
    · show U.isArrayOf cell (aty ((h.1 b).1 - 101))
      rw [hkd, show (101 + j, n).1 - 101 = j from by show 101 + j - 101 = j; omega]
      exact harr
    · show cell.slots.size = (h.1 b).2
      rw [hkd]; exact hs
    · show (h.1 b).2 < _
      rw [hkd]; exact hn
    · have hi' : i < (h.1 b).2 := hi
      rw [hkd] at hi'
      rw [hv i hi']
      show _ = some (if b = b ∧ i < k then h.2.1 a0 i else h.2.1 b i)
      simp
    · show va_RA U cell.cls (aty ((h.1 b).1 - 101))
      rw [hkd, show (101 + j, n).1 - 101 = j from by show 101 + j - 101 = j; omega]
      exact hra z
  · rw [hcpy_ne hb]
    exact (hR.2.2 b).kept (hne b hb)
section EVC
variable {G : Gx} {r : Mr} {pc : Nat} {L st : List Value} {h : Hp} {cs ss : Nat} {Post : Res → Hp → Prop}
theorem nonneg_toInt {z : Int32} (hz : ¬ z < 0) : z.toInt = (z.toNatClampNeg : Int) := by
  have hz0 : (0 : Int) ≤ z.toInt := by
    have := Int32.not_lt.mp hz
    simpa using Int32.le_iff_toInt_le.mp this
  show z.toInt = ((z.toInt.toNat : Nat) : Int)
  omega
/-- System.arraycopy of ints, from the begins on -/
theorem ev_copy {a0 a n0 n1 idx : Nat} {n : Int32} (hw : Cond.methodLink r.1.cls idx arraycopyName ∈ lw_good) (hw2 : Cond.native arraycopyName ∈ lw_good) (hw3 : Cond.static arraycopyName ∈ lw_good) (hw4 : Cond.initialized "java/lang/System" ∈ lw_good)
    (ha : G.n0 ≤ a) (hk0 : h.1 a0 = (101, n0)) (hk1 : h.1 a = (101, n1)) (hn : ¬ n < 0) (h4 : n.toNatClampNeg ≤ n0) (h5 : n.toNatClampNeg ≤ n1) (hfit : ∀ i, i < n.toNatClampNeg → ∃ x, h.2.1 a0 i = .int x)
    (hdp : 1 ≤ r.dp) (hst : (st.map fun v => v.category).sum ≤ 8) (hd : decode r.2.1 pc = .ok (.invokestatic idx, 3)) (kk : Ev G r (pc + 3) L st (hcpy h a0 a n.toNatClampNeg) cs ss Post) : Ev G r pc L (.int n :: .int 0 :: .ref a :: .int 0 :: .ref a0 :: st) h cs ss Post := by
  intro p e s m args below meth c ls H locs F hl hR hS h1 h2
  have hts := F.2.2.2.2.2.1
  obtain ⟨cell0, q1, q2, q3, q4, q5, q6, q7⟩ := hR.arr (j := 0) hk0
  obtain ⟨cell1, g1, g2, g3, g4, g5, g6, g7⟩ := hR.arr (j := 0) hk1
  obtain ⟨kc0, hkc0, cm0, hkk0⟩ := q2.2
  obtain ⟨kc1, hkc1, cm1, hkk1⟩ := g2.2
  have z0 : (0 : Int32).toNatClampNeg = 0 := by decide
  have zi : (0 : Int32).toInt = 0 := by decide
  have hnat : (nativeFrameWords "java/lang/System" "arraycopy" 5 + 11) ≤ 50 := by decide
  intro T hT X
  obtain ⟨vm', X', step⟩ := X.arraycopy F.1 F.2.2.2.2.1 (hts _ hw) (hts _ hw2) (hts _ hw3) (hts _ hw4) (src := a0) (dst := a) (cs := cell0) (cd := cell1) (srcPos := 0) (destPos := 0) (n := n) (by rw [hT]; exact q1) (by rw [hT]; exact g1)
    q2.1 g2.1 q3 g3 hkc0 hkc1 hkk0 hkk1 (by decide) (by decide) (by decide) hn
    (by rw [nonneg_toInt hn, zi, q4]; omega) (by rw [nonneg_toInt hn, zi, g4]; omega)
    (fun vm₁ _ i hi => by
      obtain ⟨x, hx⟩ := hfit i hi
      have e9 : cell0.slots.getD ((0 : Int32).toNatClampNeg + i) .null = .int x := by
        rw [z0, Nat.zero_add, Array.getD_eq_getD_getElem?, q6 i (by omega), hx]
        rfl
      rw [e9]
      exact ⟨rfl, trivial⟩)
    (g := F0 m pc ls (.int n :: .int 0 :: .ref a :: .int 0 :: .ref a0 :: st)) rfl (by rw [F.2.2.2.1]; exact hl.1) (rest := st) rfl (by rw [F.2.1]; exact hd) hdp (by show 2 * 0 + _ + _ ≤ 64 * r.dp; omega)
  have hlt : a < H.size := (Array.getElem?_eq_some_iff.mp g1).1
  generalize hcc : copied cell0 cell1 0 0 n = cellN at X' step
  have hrun : cellN = cell1.storePairs 0 ((cell0.stretch 0 n.toNatClampNeg).zipIdx) := by rw [← hcc]; show cell1.storeRun (0 : Int32).toNatClampNeg (cell0.stretch (0 : Int32).toNatClampNeg n.toNatClampNeg) = _; rw [z0]; rfl
  have hlen : (cell0.stretch 0 n.toNatClampNeg).length = n.toNatClampNeg := by simp [Cell.stretch]
  obtain ⟨f1, f2, f3, -⟩ := Cell.storePairs_facts cell1 0 ((cell0.stretch 0 n.toNatClampNeg).zipIdx)
  rw [← hrun] at f1 f2 f3
  have hget : ∀ i, i < n1 → cellN.slots[i]? = some (if i < n.toNatClampNeg then h.2.1 a0 i else h.2.1 a i) := by
    intro i hi
    rw [hrun, storePairs_get 0 (cell0.stretch 0 n.toNatClampNeg) 0 cell1 i, hlen]
    by_cases hin : i < n.toNatClampNeg
    · rw [if_pos ⟨by omega, by omega, by omega⟩, if_pos hin]
      simp only [Cell.stretch, Nat.add_zero, Nat.sub_zero, List.getElem?_map, List.getElem?_range hin, Option.map_some, Nat.zero_add]
      rw [Array.getD_eq_getD_getElem?, q6 i (by omega)]
      rfl
    · rw [if_neg (by omega), if_neg hin]
      exact g6 i hi
  have hheap : ((T.setVm vm').setCell a cellN).heap = H.setIfInBounds a cellN := by rw [← hT]; rfl
  have oq : ∀ q : Nat, q ≠ a → (H.setIfInBounds a cellN)[q]? = H[q]? := fun q hq => by simp [Array.getElem?_setIfInBounds, Ne.symm hq]
  obtain ⟨t, a1, b1⟩ := kk p e s m args below meth c ls (H.setIfInBounds a cellN) _ F hl (hR.cpy (j := 0) hk1 (by simp) oq (cell := cellN) (by simp [Array.getElem?_setIfInBounds, hlt]) ⟨fun k => by rw [f2]; exact g2.1 k, by rw [f1]; exact g2.2⟩ (by rw [f2]; exact g3) (by rw [f3]; exact g4) g5 hget (fun z => by rw [f1]; exact g7 z))
    ⟨by simp; exact hS.1, fun q y1 y2 => by rw [oq q (fun e => y2 (by rw [e]; exact ha))]; exact hS.2.1 q y1 y2, fun q hq => by
      rcases List.mem_append.mp hq with hh | hh
      · exact hS.2.2 q hh
      · obtain ⟨z, -, hz⟩ := List.mem_map.mp hh
        rw [← hz]
        exact ha⟩ h1 h2 _ hheap X'
  exact ⟨t, step t a1, b1⟩
/-- int[].clone(), and the cast behind it -/
theorem ev_clone {a n idx : Nat} (hw : Cond.methodLink r.1.cls idx ⟨"[I", "clone", "()Ljava/lang/Object;"⟩ ∈ lw_good) (hw1 : Cond.sameMethod "[I" "java/lang/Object" "clone" "()Ljava/lang/Object;" ∈ lw_good) (hw2 : Cond.native ⟨"java/lang/Object", "clone", "()Ljava/lang/Object;"⟩ ∈ lw_good)
    (hw3 : Cond.instanceMethod ⟨"java/lang/Object", "clone", "()Ljava/lang/Object;"⟩ ∈ lw_good) (hw4 : Cond.selects "[I" ⟨"[I", "clone", "()Ljava/lang/Object;"⟩ ⟨"java/lang/Object", "clone", "()Ljava/lang/Object;"⟩ ∈ lw_good)
    (ha : G.n0 ≤ a) (hk : h.1 a = (101, n)) (hfit : ∀ i, i < n → ∃ x, h.2.1 a i = .int x) (hdp : 1 ≤ r.dp) (hst : (st.map fun v => v.category).sum ≤ 8) (hcs : cs + 1 ≤ r.mc) (hss : ss + n ≤ r.ms) (hd : decode r.2.1 pc = .ok (.invokevirtual idx, 3))
    (kk : Ev G r (pc + 3) L (.ref h.2.2 :: st) (hnew h (101, n) (h.2.1 a)) (cs + 1) (ss + n) Post) : Ev G r pc L (.ref a :: st) h cs ss Post := by
  intro p e s m args below meth c ls H locs F hl hR hS h1 h2
  have hts := F.2.2.2.2.2.1
  obtain ⟨cell, q1, q2, q3, q4, q5, q6, q7⟩ := hR.arr (j := 0) hk
  have hnm : s.vm.findClass "[I" = some cell.cls := q7 ha
  obtain ⟨c0, t0', f1, f2, f3⟩ := Cond.castable_spec (va_Nw.use (A := args) rfl (F.2.2.2.2.2.2.2.2.1.2.2.2.2.2.2.2.1 ("[I", "java/lang/Cloneable") (by decide +kernel)))
  have f1' : s.vm.findClass "[I" = some c0 := f1
  cases hnm.symm.trans f1'
  obtain ⟨kS, hkS, compS, hkindS⟩ := q2.2
  intro T hT X
  obtain ⟨-, kA, hkA, comp, hkind⟩ := State.isArrayOf_alike X.warmed.alike q2
  obtain ⟨vm', X', stp⟩ := X.cloneArray F.1 F.2.2.2.2.1 (hts _ hw) (hts _ hw1) (hts _ hw2) (hts _ hw3) (hts _ hw4) (a := a) (cell := cell) (by rw [hT]; exact q1) q2.1 q3 hnm f2 f3
    (fun i v hv => by
      have hil : i < n := by rw [← q4]; exact (Array.getElem?_eq_some_iff.mp hv).1
      obtain ⟨x, hx⟩ := hfit i hil
      have e9 : v = .int x := Option.some.inj (hv.symm.trans ((q6 i hil).trans (congrArg some hx)))
      subst e9
      simp [State.fitsSlot, State.slotType?, hkA, hkind, aty, fits])
    (g := F0 m pc ls (.ref a :: st)) rfl (by rw [F.2.2.2.1]; exact hl.1) rfl (by rw [F.2.1]; exact hd) hdp (by show 2 * 0 + _ + 14 ≤ 64 * r.dp; omega) hcs (by rw [q4]; exact hss) (hloader := Vm.clonesLoader_of_array hkS hkindS)
  rw [q4] at X'
  have z1 : (H.push { cls := cell.cls, slots := cell.slots }).size = H.size + 1 := Array.size_push _
  have z2 : (H.push { cls := cell.cls, slots := cell.slots })[H.size]? = some ({ cls := cell.cls, slots := cell.slots } : Cell) := Array.getElem?_push_size
  have z3 : ∀ q : Nat, q < H.size → (H.push { cls := cell.cls, slots := cell.slots })[q]? = H[q]? := fun q hq => by rw [Array.getElem?_push, if_neg (Nat.ne_of_lt hq)]
  obtain ⟨t, b1, b2⟩ := kk p e s m args below meth c ls (H.push { cls := cell.cls, slots := cell.slots }) locs F hl (hR.fresh z1 z3 ⟨fun h8 h9 => absurd (show 101 ≤ 100 from h9) (by decide), fun _ => ⟨_, z2, ⟨(fun k z => nomatch (show VmData.none = VmData.statics k from z)), q2.2⟩, (fun z => nomatch (show VmData.none = VmData.unknown from z)), q4, q5, q6, fun _ => hnm⟩⟩)
    ⟨Nat.le_trans hS.1 (by omega), fun q y1 y2 => (z3 q (Nat.lt_of_lt_of_le y1 hS.1)).trans (hS.2.1 q y1 y2), hS.2.2⟩ hcs hss ((T.setVm vm').pushCell { cls := cell.cls, slots := cell.slots }) (by rw [← hT]; rfl) X'
  refine ⟨t, stp t ?_, b2⟩
  rw [hT, hR.1]
  exact b1
end EVC
end
section
/-! ===== calls, entries, throws ===== -/
theorem PcP.blind (G : Gx) (as : List Value) (h : Hp) : FrameBlind (PcP G as h) := by
  intro a U g mk q
  obtain ⟨q0, q1, q2⟩ := q
  exact ⟨q0, Gok.moved (u := U) (U := U.calling g mk a) (State.WarmedH.refl U) (Nat.le_refl _) (fun _ _ _ => rfl) q1, Rel.moved (u := U) (U := U.calling g mk a) (Vm.Alike.refl U.vm) q2⟩
theorem PcP.pre {G : Gx} {as : List Value} {h : Hp} {s : State} {H : Heap} {locs : List Loc} (hg : Gok G s) (hR : Rel G h s H) (hS : va_S (nw G) s.heap H locs) : ∀ U : State, U.heap = H → s.WarmedH U.vm → PcP G as h as.toArray U := by
  intro U hU hW
  exact ⟨rfl, Gok.moved hW (by rw [hU]; exact hS.1) (by rw [hU]; exact hS.2.1) hg, by rw [hU]; exact Rel.moved hW.alike hR⟩
def rcv (G : Gx) (h : Hp) (C : String) (b : Nat) : Prop := (∃ (ci N : Nat) (T : u_T), cls[ci]? = some (C, T, N) ∧ (h.1 b).1 = ci + 1) ∨ (∃ o, ocs[o]? = some C ∧ G.oc b = o + 1)
theorem rcv.cell {G : Gx} {h : Hp} {C : String} {b : Nat} {s : State} {H : Heap} {locs : List Loc} (hv : rcv G h C b) (hg : Gok G s) (hR : Rel G h s H) (hS : va_S (nw G) s.heap H locs) : ∃ cellB : Cell, H[b]? = some cellB ∧ cellB.vm.isStatics = false ∧ s.vm.findClass C = some cellB.cls := by
  rcases hv with ⟨ci, N, T, e1, e2⟩ | ⟨o, e1, e2⟩
  · obtain ⟨cv, g1, g2, g3, -⟩ := hR.obj e1 e2 (cls_lt e1)
    exact ⟨cv, g1, by rw [g3]; rfl, by rw [g2]; exact (hg.2.1 ci _ e1).2.1⟩
  · obtain ⟨cv, g1, g2, g3, -⟩ := (hg.2.2.2.2.1 o b C e1 e2).kept hS.2.1
    exact ⟨cv, g1, g2, g3⟩
section EVM
variable {G : Gx} {r q : Mr} {pc : Nat} {L st : List Value} {h : Hp} {cs ss : Nat} {Post P1 : Res → Hp → Prop}
/-- behind a call -/
theorem run_ok {p : Program} {e : Env} {s : State} {m : MethodId} {args aa : Array Value} {below : List Frame} {meth : Method} {c : Code} {ls : Array Slot} {H : Heap} {locs : List Loc} {st0 : List Value} (F : FrC G r p s m args meth c) (hl : LR r.ml ls L) (hS : va_S (nw G) s.heap H locs)
    (hr : vx_Run p G.1 e r.rm s m args below meth c H locs cs ss q.mc q.ms (F0 m pc ls st0) st (QcP G P1 aa) (XCP G P1) (nw G)) (hc : cs + q.mc ≤ r.mc) (hs : ss + q.ms ≤ r.ms)
    (k1 : ∀ v h', P1 (.inl v) h' → Ev G r (pc + 3) L (v.toList ++ st) h' (cs + q.mc) (ss + q.ms) Post) (k2 : ∀ E h', P1 (.inr E) h' → Post (.inr E) h') :
    W p G.1 e r.rm s m args below meth c H locs cs ss (vx_MQ below (QcP G Post) (XCP G Post) args s r.mc r.ms (nw G)) (F0 m pc ls st0) := by
  intro T hT X
  rcases hr T hT X with ⟨v, st₀, t, T', Lc, h0, X', hL, e1, e2, ⟨v', h', hv, hP, hR', hF⟩, go⟩ | ⟨a, st₀, t, T', Lc, E, ce, h0, X', hL, e1, e2, ⟨h', hP, hR', hF⟩, hce, hcv, hcl, go⟩
  · cases hv
    obtain ⟨z, k⟩ := hF
    rw [h0] at z k
    obtain ⟨t2, a1, b1⟩ := k1 v h' hP p e s m args below meth c ls T'.heap (locs ++ Lc) F hl (by rw [e1]; exact hR'.moved (by rw [← e2]; exact X'.warmed.alike.symm))
      ⟨Nat.le_trans hS.1 (by rw [e1]; exact z), fun b y1 y2 => by rw [e1, k b (Nat.lt_of_lt_of_le y1 hS.1) y2]; exact hS.2.1 b y1 y2, fun b hb => by
        rcases List.mem_append.mp hb with y | y
        · exact hS.2.2 b y
        · exact hL b y⟩ hc hs T' rfl X'
    exact ⟨t2, go t2 a1, b1⟩
  · obtain ⟨z, k⟩ := hF
    rw [h0] at z k
    have hSx : va_S (nw G) s.heap T'.heap (locs ++ Lc) := ⟨Nat.le_trans hS.1 (by rw [e1]; exact z), fun b y1 y2 => by rw [e1, k b (Nat.lt_of_lt_of_le y1 hS.1) y2]; exact hS.2.1 b y1 y2, fun b hb => by
        rcases List.mem_append.mp hb with y | y
        · exact hS.2.2 b y
        · exact hL b y⟩
    obtain ⟨t2, a1, b1⟩ := vx_out (Qc := QcP G Post) (XC := XCP G Post) (l := G.1) (p := p) (e := e) (R := r.rm) (s := s) (m := m) (args := args) (below := below) (c := c) (ls := ls) (rest := st) (pc := pc) (E := E) (ce := ce) (q := a) (H := T'.heap) (locs := locs ++ Lc) (cells := cs + q.mc) (slots := ss + q.ms) (free := nw G) (mc := r.mc) (ms := r.ms)
      (fun x hx => (F.2.2.2.2.2.2.2.2.2 x hx).elim) F.2.2.2.2.2.2.1 (by rw [e1]; exact hce) hcv hcl
      (fun t3 ht3 hA => ⟨h', k2 E h' hP, by rw [ht3, e1]; exact hR'.moved ((by rw [← e2]; exact X'.warmed.alike.symm : t.vm.Alike s.vm).trans hA), hSx.F ht3⟩) hSx.2.2 hc hs T' rfl X'
    exact ⟨t2, go.trans a1, b1⟩
theorem room_ok (hdp : q.dp + 1 ≤ r.dp) (hml : q.ml ≤ 45) : q.rm.frames + 1 ≤ r.rm.frames ∧ 8 + (q.ml + 11) + q.rm.locals ≤ r.rm.locals := by
  refine ⟨hdp, ?_⟩
  show 8 + (q.ml + 11) + 64 * q.dp ≤ 64 * r.dp
  omega
theorem ws_good (hcode : Cond.code q.1 q.2.1 q.ml q.rt ∈ lw_good) : GoodIn lw_good q.ws := good_in (fun w hw => (List.mem_cons.mp hw).elim (fun e => by rw [e]; exact hcode) id)
/-- what a program decides of a callee -/
def plainB (y : MethodName) (n : Nat) : Bool := decide (y.cls ≠ "java/lang/invoke/MethodHandle") && decide (y.cls ≠ "java/lang/invoke/VarHandle") && decide ((parseMethodDescriptor y.desc).map (fun d => d.parameters.length) = some n)
theorem plain_ok {y : MethodName} {n : Nat} (h : plainB y n = true) : y.cls ≠ "java/lang/invoke/MethodHandle" ∧ y.cls ≠ "java/lang/invoke/VarHandle" ∧ (parseMethodDescriptor y.desc).map (fun d => d.parameters.length) = some n := by
  simp only [plainB, Bool.and_eq_true, decide_eq_true_eq] at h
  exact ⟨h.1.1, h.1.2, h.2⟩
theorem ev_callV {idx b : Nat} {As : List Value} (hM : EvM G q (.ref b :: As) h P1) (hcode : Cond.code q.1 q.2.1 q.ml q.rt ∈ lw_good) (hlink : Cond.methodLink r.1.cls idx q.1 ∈ lw_good) (hini : Cond.initialized q.1.cls ∈ lw_good) (hin : Cond.instanceMethod q.1 ∈ lw_good) (hsel : Cond.selects q.1.cls q.1 q.1 ∈ lw_good)
    (hpl : plainB q.1 As.length = true) (hdp : q.dp + 1 ≤ r.dp) (hml : q.ml ≤ 45) (hrcv : rcv G h q.1.cls b) (hst : (st.map fun v => v.category).sum ≤ 8) (hd : decode r.2.1 pc = .ok (.invokevirtual idx, 3)) (hc : cs + q.mc ≤ r.mc) (hs : ss + q.ms ≤ r.ms)
    (k1 : ∀ v h', P1 (.inl v) h' → Ev G r (pc + 3) L (v.toList ++ st) h' (cs + q.mc) (ss + q.ms) Post) (k2 : ∀ E h', P1 (.inr E) h' → Post (.inr E) h') : Ev G r pc L (As.reverse ++ .ref b :: st) h cs ss Post := by
  intro p e s m args below meth c ls H locs F hl hR hS h1 h2
  have hts := F.2.2.2.2.2.1
  refine run_ok F hl hS (q := q) (st0 := As.reverse ++ .ref b :: st) (st := st) (vx_runV (C := q.1.cls) (cc := r.2.1) (nL := r.ml) (index := idx) (bytes := q.2.1) (maxL := q.ml) (ret := q.rt) (rm := q.rm) (ws := q.ws) (n := As.length) (b := b) (As := As) ⟨F.1, F.2.1, F.2.2.2.1, F.2.2.2.2.1, hts⟩ hM
    ⟨callB_of As.length hts (ws_good hcode) rfl rfl rfl (hts _ hini) (hts _ hlink) (plain_ok hpl) (room_ok hdp hml), hts _ hin, hts _ hsel⟩
    ⟨PcP.blind G _ h, hrcv.cell F.2.2.2.2.2.2.2.2.1 hR hS, PcP.pre F.2.2.2.2.2.2.2.2.1 hR hS⟩ rfl rfl hl.1 rfl (by show 2 * 0 + _ ≤ 8; omega) hd ⟨hc, hs⟩) hc hs k1 k2
theorem ev_callS {idx : Nat} {As : List Value} (hM : EvM G q As h P1) (hcode : Cond.code q.1 q.2.1 q.ml q.rt ∈ lw_good) (hlink : Cond.methodLink r.1.cls idx q.1 ∈ lw_good) (hini : Cond.initialized q.1.cls ∈ lw_good) (hsta : Cond.static q.1 ∈ lw_good)
    (hpl : plainB q.1 As.length = true) (hdp : q.dp + 1 ≤ r.dp) (hml : q.ml ≤ 45) (hst : (st.map fun v => v.category).sum ≤ 8) (hd : decode r.2.1 pc = .ok (.invokestatic idx, 3)) (hc : cs + q.mc ≤ r.mc) (hs : ss + q.ms ≤ r.ms)
    (k1 : ∀ v h', P1 (.inl v) h' → Ev G r (pc + 3) L (v.toList ++ st) h' (cs + q.mc) (ss + q.ms) Post) (k2 : ∀ E h', P1 (.inr E) h' → Post (.inr E) h') : Ev G r pc L (As.reverse ++ st) h cs ss Post := by
  intro p e s m args below meth c ls H locs F hl hR hS h1 h2
  have hts := F.2.2.2.2.2.1
  refine run_ok F hl hS (q := q) (st0 := As.reverse ++ st) (st := st) (vx_runS (cc := r.2.1) (nL := r.ml) (index := idx) (bytes := q.2.1) (maxL := q.ml) (ret := q.rt) (rm := q.rm) (ws := q.ws) (n := As.length) (As := As) ⟨F.1, F.2.1, F.2.2.2.1, F.2.2.2.2.1, hts⟩ hM
    ⟨callB_of As.length hts (ws_good hcode) rfl rfl rfl (hts _ hini) (hts _ hlink) (plain_ok hpl) (room_ok hdp hml), hts _ hsta⟩
    ⟨PcP.blind G _ h, PcP.pre F.2.2.2.2.2.2.2.2.1 hR hS⟩ rfl rfl hl.1 rfl (by show 2 * 0 + _ ≤ 8; omega) hd ⟨hc, hs⟩) hc hs k1 k2
theorem met_of_vx {l : Launch} {y : MethodName} {ws : List Cond} {rm : Room} {Pc : Array Value → State → Prop} {Qc : Array Value → State → Outcome → State → Prop} {XC : String → State → State → Prop} {mc ms : Nat} {free : Addr → Prop} (h : vx_Met l y ws rm Pc Qc XC mc ms free) (hx : ∀ E st t, ¬ XC E st t) : Met l y ws rm Pc Qc mc ms free := by
  intro p e a1 a2 a3 s m args below a4 a5 a6 a7
  obtain ⟨k, o, b1, b2, b3, hQ⟩ := h p e a1 a2 a3 s m args below a4 a5 a6 a7
  refine ⟨k, o, b1, b2, b3, ?_⟩
  rcases hQ with hQ | ⟨q, -, E, ce, Lc, hxc, -⟩
  · exact hQ
  · exact absurd hxc (hx _ _ _)
theorem vx_of_va {p : Program} {l : Launch} {e : Env} {R : Room} {s : State} {m : MethodId} {args : Array Value} {below : List Frame} {meth : Method} {c : Code} {H : Heap} {locs : List Loc} {cells slots mc ms : Nat} {g : JFrame} {rest : List Value} {Qa : State → Outcome → State → Prop} {XC : String → State → State → Prop} {free : Addr → Prop}
    (hr : va_Run p l e R s m args below meth c H locs cells slots mc ms g rest Qa free) : vx_Run p l e R s m args below meth c H locs cells slots mc ms g rest Qa XC free := fun T hT X => Or.inl (hr T hT X)
theorem ev_callI {idx b : Nat} {As : List Value} (hM : EvM G q (.ref b :: As) h P1) (hno : ∀ E h', ¬ P1 (.inr E) h') (hrt : q.rt = none) (hcode : Cond.code q.1 q.2.1 q.ml none ∈ lw_good) (hlink : Cond.methodLink r.1.cls idx q.1 ∈ lw_good) (hini : Cond.initialized q.1.cls ∈ lw_good) (hin : Cond.instanceMethod q.1 ∈ lw_good) (hnm : q.1.name = "<init>")
    (hpl : plainB q.1 As.length = true) (hdp : q.dp + 1 ≤ r.dp) (hml : q.ml ≤ 45) (hst : (st.map fun v => v.category).sum ≤ 8) (hd : decode r.2.1 pc = .ok (.invokespecial idx, 3)) (hc : cs + q.mc ≤ r.mc) (hs : ss + q.ms ≤ r.ms)
    (k1 : ∀ v h', P1 (.inl v) h' → Ev G r (pc + 3) L (v.toList ++ st) h' (cs + q.mc) (ss + q.ms) Post) : Ev G r pc L (As.reverse ++ .ref b :: st) h cs ss Post := by
  intro p e s m args below meth c ls H locs F hl hR hS h1 h2
  have hts := F.2.2.2.2.2.1
  have hcode' : Cond.code q.1 q.2.1 q.ml q.rt ∈ lw_good := by rw [hrt]; exact hcode
  refine run_ok F hl hS (q := q) (st0 := As.reverse ++ .ref b :: st) (st := st) (vx_of_va (va_runI (cc := r.2.1) (nL := r.ml) (index := idx) (bytes := q.2.1) (maxL := q.ml) (rm := q.rm) (ws := q.ws) (n := As.length) (b := b) (As := As) ⟨F.1, F.2.1, F.2.2.2.1, F.2.2.2.2.1, hts⟩ (met_of_vx hM (fun E st t => fun ⟨h', z, _⟩ => hno E h' z))
    ⟨callB_of As.length hts (ws_good hcode') (by show Cond.code q.1 q.2.1 q.ml q.rt :: lw_good = _; rw [hrt]) rfl rfl (hts _ hini) (hts _ hlink) (plain_ok hpl) (room_ok hdp hml), hnm, hts _ hin⟩
    ⟨PcP.blind G _ h, PcP.pre F.2.2.2.2.2.2.2.2.1 hR hS⟩ rfl rfl hl.1 rfl (by show 2 * 0 + _ ≤ 8; omega) hd ⟨hc, hs⟩)) hc hs k1 (fun E h' z => absurd z (hno E h'))
theorem ev_callIN {idx b : Nat} {As : List Value} {host : String} (hM : EvM G q (.ref b :: As) h P1) (hno : ∀ E h', ¬ P1 (.inr E) h') (hrt : q.rt = none) (hcode : Cond.code q.1 q.2.1 q.ml none ∈ lw_good) (hlink : (r.1.cls, idx, q.1, host) ∈ nests) (hini : Cond.initialized q.1.cls ∈ lw_good) (hin : Cond.instanceMethod q.1 ∈ lw_good) (hnm : q.1.name = "<init>")
    (hpl : plainB q.1 As.length = true) (hdp : q.dp + 1 ≤ r.dp) (hml : q.ml ≤ 45) (hst : (st.map fun v => v.category).sum ≤ 8) (hd : decode r.2.1 pc = .ok (.invokespecial idx, 3)) (hc : cs + q.mc ≤ r.mc) (hs : ss + q.ms ≤ r.ms)
    (k1 : ∀ v h', P1 (.inl v) h' → Ev G r (pc + 3) L (v.toList ++ st) h' (cs + q.mc) (ss + q.ms) Post) : Ev G r pc L (As.reverse ++ .ref b :: st) h cs ss Post := by
  intro p e s m args below meth c ls H locs F hl hR hS h1 h2
  have hts := F.2.2.2.2.2.1
  have hcode' : Cond.code q.1 q.2.1 q.ml q.rt ∈ lw_good := by rw [hrt]; exact hcode
  refine run_ok F hl hS (q := q) (st0 := As.reverse ++ .ref b :: st) (st := st) (vx_of_va (va_runIN (cc := r.2.1) (nL := r.ml) (index := idx) (bytes := q.2.1) (maxL := q.ml) (rm := q.rm) (ws := q.ws) (n := As.length) (b := b) (As := As) (host := host) ⟨F.1, F.2.1, F.2.2.2.1, F.2.2.2.2.1, hts⟩ (met_of_vx hM (fun E st t => fun ⟨h', z, _⟩ => hno E h' z))
    ⟨va_cnB As.length hts (ws_good hcode') (by show Cond.code q.1 q.2.1 q.ml q.rt :: lw_good = _; rw [hrt]) rfl rfl (F.2.2.2.2.2.2.2.2.1.2.2.2.2.2.2.1 _ hlink) (hts _ hini) (plain_ok hpl) (room_ok hdp hml), hnm, hts _ hin⟩
    ⟨PcP.blind G _ h, PcP.pre F.2.2.2.2.2.2.2.2.1 hR hS⟩ rfl rfl hl.1 rfl (by show 2 * 0 + _ ≤ 8; omega) hd ⟨hc, hs⟩)) hc hs k1 (fun E h' z => absurd z (hno E h'))
theorem args_in : ∀ (vs : List Value) (k i : Nat) (v : Value), (∀ w ∈ vs, w.category = 1) → vs[i]? = some v → (k + i, v) ∈ lv_args k vs
  | [], _, _, _, _, h => by simp at h
  | w :: vs, k, 0, v, hc, h => by
    cases h
    exact List.mem_cons_self
  | w :: vs, k, i + 1, v, hc, h => by
    have h1 : w.category = 1 := hc w List.mem_cons_self
    have := args_in vs (k + 1) i v (fun z hz => hc z (List.mem_cons_of_mem _ hz)) h
    rw [show k + (i + 1) = k + 1 + i by omega]
    show _ ∈ (k, w) :: lv_args (if w.category = 2 then k + 2 else k + 1) vs
    rw [if_neg (by omega)]
    exact List.mem_cons_of_mem _ this
theorem sl_len : ∀ (vs : List Value), (∀ w ∈ vs, w.category = 1) → (lg_sl vs).length = vs.length
  | [], _ => rfl
  | w :: vs, hc => by
    have h1 : w.category = 1 := hc w List.mem_cons_self
    have := sl_len vs (fun z hz => hc z (List.mem_cons_of_mem _ hz))
    simp only [lg_sl, List.flatMap_cons] at this ⊢
    rw [if_neg (by omega)]
    simp [this]
theorem EvM.of {As : List Value} (hy : plainName r.1.cls = true) (hc : ∀ w ∈ As, w.category = 1) (hn : As.length ≤ r.ml) (k : Ev G r 0 (As ++ List.replicate (r.ml - As.length) un) [] h 0 0 Post) : EvM G r As h Post := by
  refine vx_ofW (cc := r.2.1) (maxL := r.ml) (ret := r.rt) (ws' := lw_good) hy rfl ?_
  intro p e s m args below meth c s₁ B hml ht hv
  obtain ⟨rfl, hg, hR⟩ := hv
  have hl := lv_entry As (n := r.ml) (by rw [sl_len As hc]; exact hn)
  rw [lg_entry_eq]
  generalize (lg_sl As ++ List.replicate (r.ml - (lg_sl As).length) Slot.unset).toArray = ls at hl ⊢
  have hts := atoms_spec (ws := r.ws) B.pre
  refine k p e s m As.toArray below meth c ls s.heap [] ⟨B.exec, B.bytes, B.returns, hml, findClass_of_methodNamed B.named, fun w hw => hts w (List.mem_cons_of_mem _ hw), B.notSynchronized, (name_of_methodNamed B.named B.method).1, hg, ht⟩ ⟨hl.1, hl.2.1, by simp; omega, fun i v hi hv => ?_⟩ hR va_S.rf (Nat.zero_le _) (Nat.zero_le _)
  by_cases hlt : i < As.length
  · rw [List.getElem?_append_left hlt] at hi
    refine ⟨hc v (List.mem_of_getElem? hi), ?_⟩
    have := hl.2.2 (0 + i, v) (args_in As 0 i v hc hi)
    rwa [Nat.zero_add] at this
  · rw [List.getElem?_append_right (by omega)] at hi
    have := (List.getElem?_eq_some_iff.mp hi)
    obtain ⟨z1, z2⟩ := this
    rw [List.getElem_replicate] at z2
    exact absurd z2.symm hv
/-- more room, a weaker end -/
theorem EvM.post (hM : EvM G q L h P1) (hp : ∀ o h', P1 o h' → Post o h') : EvM G q L h Post := by
  intro p e a1 a2 a3 s m args below a4 a5 a6 a7
  obtain ⟨k, o, b1, b2, b3, hQ⟩ := hM p e a1 a2 a3 s m args below a4 a5 a6 a7
  refine ⟨k, o, b1, b2, b3, ?_⟩
  rcases hQ with ⟨⟨v, h', c1, c2, c3⟩, hF⟩ | ⟨a, d1, E, ce, Lc, ⟨h', c2, c3⟩, d2⟩
  · exact Or.inl ⟨⟨v, h', c1, hp _ _ c2, c3⟩, hF⟩
  · exact Or.inr ⟨a, d1, E, ce, Lc, ⟨h', hp _ _ c2, c3⟩, d2⟩
end EVM
end
section
/-! ===== throw new E() ===== -/
def xnames : List String := ["java/lang/RuntimeException", "java/lang/Exception"]
def xextra : List Cond := casts.map (fun q => Cond.castable q.1 q.2) ++ decls.map Cond.declares
theorem xextra_ok {G : Gx} {s : State} {args : Array Value} (hg : Gok G s) : ∀ w ∈ xextra, w.before args s = true := by
  intro w hw
  rcases List.mem_append.mp hw with hw | hw
  · obtain ⟨q, hq, rfl⟩ := List.mem_map.mp hw
    exact va_Nw.use rfl (hg.2.2.2.2.2.2.2.1 q hq)
  · obtain ⟨q, hq, rfl⟩ := List.mem_map.mp hw
    exact va_Nw.use rfl (hg.2.2.2.2.2.2.2.2.1 q hq)
theorem Rel.more {G : Gx} {h : Hp} {u U : State} {H H1 : Heap} (hR : Rel G h u H) (hvm : u.vm.Alike U.vm) (hsz : H.size ≤ H1.size) (hne : ∀ b, b < H.size → H1[b]? = H[b]?) : Rel G (h.1, h.2.1, H1.size) U H1 := by
  refine ⟨rfl, Nat.le_trans hR.2.1 (by rw [← hR.1]; exact hsz), fun b => ?_⟩
  by_cases hlt : b < H.size
  · exact ((hR.2.2 b).kept (hne b hlt)).moved hvm
  · have hnone : H[b]? = none := by simpa using Nat.le_of_not_lt hlt
    refine ⟨fun h8 h9 => ?_, fun h9 => ?_⟩
    · obtain ⟨r, -, -, cell, z, -⟩ := (hR.2.2 b).1 h8 h9
      rw [hnone] at z; cases z
    · obtain ⟨cell, z, -⟩ := (hR.2.2 b).2 h9
      rw [hnone] at z; cases z
def xOK (own : String) (ik ic : Nat) (E : String) : Bool :=
  Bundle.fit E && (vx_at0 own ic E xnames).all (fun w => vx_ot w && (if goodWord w then decide (w ∈ lw_good) else decide (w ∈ xextra))) && vx_ot (Cond.classLink own ik E) && vx_ot (Cond.initialized E) && decide (Cond.classLink own ik E ∈ lw_good) && decide (Cond.initialized E ∈ lw_good)
section EVT
variable {G : Gx} {r : Mr} {pc : Nat} {L st : List Value} {h : Hp} {cs ss : Nat} {Post : Res → Hp → Prop}
theorem ev_throw {ik ic : Nat} {E : String} (hl0 : G.1.stackTraces = false) (hok : xOK r.1.cls ik ic E = true) (d0 : decode r.2.1 pc = .ok (.new ik, 3)) (d3 : decode r.2.1 (pc + 3) = .ok (.dup, 1)) (d4 : decode r.2.1 (pc + 4) = .ok (.invokespecial ic, 3)) (d7 : decode r.2.1 (pc + 7) = .ok (.athrow, 1))
    (hdp : 6 ≤ r.dp) (hst : (st.map fun v => v.category).sum ≤ 8) (hcs : cs + 1 ≤ r.mc) (hss : ss + 6 ≤ r.ms) (k : ∀ n', h.2.2 ≤ n' → Post (.inr E) (h.1, h.2.1, n')) : Ev G r pc L st h cs ss Post := by
  intro p e s m args below meth c ls H locs F hl hR hS h1 h2
  have hts := F.2.2.2.2.2.1
  have hg := F.2.2.2.2.2.2.2.2.1
  simp only [xOK, Bool.and_eq_true, List.all_eq_true, decide_eq_true_eq] at hok
  obtain ⟨⟨⟨⟨⟨o1, o2⟩, o3⟩, o4⟩, o5⟩, o6⟩ := hok
  refine vx_throw0 (names := xnames) (A := nw G) F.1 F.2.1 hl0 F.2.2.2.2.1 o1 (by decide) (hts _ o5) (hts _ o6) (fun w hw => ?_) (fun w hw => ?_) hg.2.2.2.2.2.2.2.2.2.2.2.1 hg.2.2.2.2.2.2.2.2.2.2.2.2 hS (by rw [F.2.2.2.1]; exact hl.1) d0 d3 d4 d7
    (fun x hx => (F.2.2.2.2.2.2.2.2.2 x hx).elim) ?_ ?_ hcs hss F.2.2.2.2.2.2.1 (fun t hA hz hk => ?_) hS.2.2 hcs hss
  · have := (o2 w hw).2
    split at this
    · exact hts w (of_decide_eq_true this)
    · exact xextra_ok hg w (of_decide_eq_true this)
  · rcases List.mem_cons.mp hw with rfl | hw
    · exact o3
    · rcases List.mem_cons.mp hw with rfl | hw
      · exact o4
      · exact (o2 w hw).1
  · show 2 + 3 < r.dp
    omega
  · show _ + (13 * (2 + 1) + 42) ≤ 64 * r.dp
    omega
  · exact ⟨_, k t.heap.size (by rw [← hR.1]; exact hz), hR.more hA hz hk, Nat.le_trans hS.1 hz, fun q y1 y2 => (hk q (Nat.lt_of_lt_of_le y1 hS.1)).trans (hS.2.1 q y1 y2)⟩
end EVT
set_option maxRecDepth 100000 in
theorem xtest : xOK "GripEstates" 213 215 "java/lang/IllegalArgumentException" = xOK "GripEstates" 213 215 "java/lang/IllegalArgumentException" := rfl
end
section
/-! ===== what must hold ahead of a piece of code ===== -/
/-- place, instruction, length, op, three numbers, a word's place, a constant -/
abbrev Ent : Type := Nat × Instr × Nat × Nat × Nat × Nat × Nat × Nat × Int32
def fI (h : Hp) (kd a k : Nat) (x : Int32) : Prop := (h.1 a).1 = kd ∧ h.2.1 a k = .int x
def fR (h : Hp) (kd a k b : Nat) : Prop := (h.1 a).1 = kd ∧ h.2.1 a k = .ref b
def fW (G : Gx) (h : Hp) (kd a : Nat) : Prop := G.n0 ≤ a ∧ (h.1 a).1 = kd
def aI (h : Hp) (kd a : Nat) (i x : Int32) : Prop := ∃ n, h.1 a = (kd, n) ∧ vp_in i n ∧ h.2.1 a i.toNatClampNeg = .int x
def aR (h : Hp) (kd a : Nat) (i : Int32) (b : Nat) : Prop := ∃ n, h.1 a = (kd, n) ∧ vp_in i n ∧ h.2.1 a i.toNatClampNeg = .ref b
def aL (h : Hp) (a : Nat) (i : Int32) (x : Int64) : Prop := ∃ n, h.1 a = (104, n) ∧ vp_in i n ∧ h.2.1 a i.toNatClampNeg = .long x
def aW (G : Gx) (h : Hp) (kd a : Nat) (i : Int32) : Prop := G.n0 ≤ a ∧ ∃ n, h.1 a = (kd, n) ∧ vp_in i n
def aN (h : Hp) (kd a n : Nat) : Prop := h.1 a = (kd, n)
def rK (G : Gx) (h : Hp) (kd b : Nat) : Prop := if kd < 200 then (h.1 b).1 = kd else G.oc b = kd - 200
def EvI (G : Gx) (q : Mr) (args : List Value) (h : Hp) (x : Int32) : Prop := EvM G q args h (fun o h' => o = .inl (some (.int x)) ∧ h' = h)
def bret (x : Int32) (P : Prop) : Prop := if x = 0 then P else if x = 1 then P else False
theorem bret_of {x : Int32} {P : Prop} (h : x = 0 ∨ x = 1) (p : P) : bret x P := by
  unfold bret
  split
  · exact p
  · split
    · exact p
    · rcases h with h | h <;> contradiction
theorem bret_in {x : Int32} {P : Prop} (h : bret x P) : (x = 0 ∨ x = 1) ∧ P := by
  unfold bret at h
  split at h
  · exact ⟨Or.inl ‹_›, h⟩
  · split at h
    · exact ⟨Or.inr ‹_›, h⟩
    · exact h.elim
def bop (a : Nat) (x y : Int32) : Int32 := match a with
  | 0 => x + y
  | 1 => x - y
  | 2 => x * y
  | 3 => x &&& y
  | 4 => x ||| y
  | 5 => x ^^^ y
  | 6 => x <<< (y &&& 31)
  | 7 => x >>> (y &&& 31)
  | _ => (x.toUInt32 >>> (y.toUInt32 &&& Int32.toUInt32 31)).toInt32
def imax (x y : Int32) : Int32 := if x < y then y else x
def imin (x y : Int32) : Int32 := if y < x then y else x
def uop (a : Nat) (x : Int32) : Int32 := match a with
  | 0 => -x
  | 1 => x.toInt8.toInt32
  | _ => (x.toUInt32 % 65536).toInt32
def br1 (a : Nat) (x : Int32) (P Q : Prop) : Prop := match a with
  | 0 => (x = 0 → P) ∧ (¬ x = 0 → Q)
  | 1 => (¬ x = 0 → P) ∧ (x = 0 → Q)
  | 2 => (x < 0 → P) ∧ (¬ x < 0 → Q)
  | 3 => (0 ≤ x → P) ∧ (¬ 0 ≤ x → Q)
  | 4 => (0 < x → P) ∧ (¬ 0 < x → Q)
  | _ => (x ≤ 0 → P) ∧ (¬ x ≤ 0 → Q)
def br2 (a : Nat) (x y : Int32) (P Q : Prop) : Prop := match a with
  | 0 => (x = y → P) ∧ (¬ x = y → Q)
  | 1 => (¬ x = y → P) ∧ (x = y → Q)
  | 2 => (x < y → P) ∧ (¬ x < y → Q)
  | 3 => (y ≤ x → P) ∧ (¬ y ≤ x → Q)
  | 4 => (y < x → P) ∧ (¬ y < x → Q)
  | _ => (x ≤ y → P) ∧ (¬ x ≤ y → Q)
def cndI (a : Nat) : Jvm.ClassFile.Cond := match a with
  | 0 => .eq
  | 1 => .ne
  | 2 => .lt
  | 3 => .ge
  | 4 => .gt
  | _ => .le
/-- the cases of a switch -/
def swP (K : Nat → Prop) : List Nat → Int32 → Int32 → Prop
  | [], _, _ => True
  | t :: ts, v, x => (x = v → K t) ∧ swP K ts (v + 1) x
def dflt (ci k : Nat) : Value := match cls[ci]? with
  | some q => (match parseFieldDescriptor (q.2.1 k).2.2.1 with | some ty => defaultValue ty | none => .null)
  | none => .null
def clsN (ci : Nat) : Nat := match cls[ci]? with | some q => q.2.2 | none => 0
def excs (a : Nat) : String := match a with
  | 0 => "java/lang/IllegalArgumentException"
  | 1 => "java/lang/IllegalStateException"
  | 2 => "java/lang/IndexOutOfBoundsException"
  | 3 => "java/lang/UnsupportedOperationException"
  | _ => "java/util/NoSuchElementException"
def gd (l : List Value) (P : Prop) : Prop := if l.length ≤ 4 then P else False
def gs (n : Nat) (l : List Value) (P : Prop) : Prop := if n ≤ l.length ∧ (l.drop n).length ≤ 4 then P else False
def gp (d n : Nat) (P : Prop) : Prop := if n ≤ d then P else False
def gz (q : Mr) (P : Prop) : Prop := if q.mc = 0 ∧ q.ms = 0 then P else False
abbrev Kt : Type := Nat → List Value → List Value → Hp → Nat → Nat → Prop
def bud (r q : Mr) (cs ss : Nat) (P : Nat → Nat → Prop) : Prop := if q.mc = 0 ∧ q.ms = 0 then P cs ss else (cs + q.mc ≤ r.mc ∧ ss + q.ms ≤ r.ms) ∧ P (cs + q.mc) (ss + q.ms)
/-- one instruction: what must hold ahead of it, K being what must hold ahead of others -/
def stepw (G : Gx) (r : Mr) (cl : List (Mr × Nat × Nat)) (sw : List (List Nat)) (K : Kt) (i op a b c : Nat) (v : Int32) (L st : List Value) (h : Hp) (cs ss : Nat) (Post : Res → Hp → Prop) : Prop := match op with
  | 1 => match L[a]? with | some (.int x) => K (i + 1) L (.int x :: st) h cs ss | _ => False
  | 2 => match L[a]? with | some (.ref x) => K (i + 1) L (.ref x :: st) h cs ss | _ => False
  | 3 => match st with | .int x :: st => K (i + 1) (L.set a (.int x)) st h cs ss | _ => False
  | 4 => match st with | .ref x :: st => K (i + 1) (L.set a (.ref x)) st h cs ss | _ => False
  | 5 => K (i + 1) L (.int v :: st) h cs ss
  | 6 => match L[a]? with | some (.int x) => K (i + 1) (L.set a (.int (x + v))) st h cs ss | _ => False
  | 7 => match st with | .int y :: .int x :: st => K (i + 1) L (.int (bop a x y) :: st) h cs ss | _ => False
  | 8 => match st with | .int y :: .int x :: st => ¬ y = 0 ∧ K (i + 1) L (.int (x / y) :: st) h cs ss | _ => False
  | 9 => match st with | .int y :: .int x :: st => ¬ y = 0 ∧ K (i + 1) L (.int (x - x / y * y) :: st) h cs ss | _ => False
  | 10 => match st with | .int x :: st => K (i + 1) L (.int (uop a x) :: st) h cs ss | _ => False
  | 11 => match st with | .int x :: st => K (i + 1) L (.long x.toInt64 :: st) h cs ss | _ => False
  | 12 => match st with | .long y :: .long x :: st => K (i + 1) L (.int (lg_cmp x y) :: st) h cs ss | _ => False
  | 13 => K (i + 1) L (.long (Int64.ofNat a) :: st) h cs ss
  | 14 => match st with | .int x :: st => K (i + 1) L (.int x :: .int x :: st) h cs ss | .ref x :: st => K (i + 1) L (.ref x :: .ref x :: st) h cs ss | _ => False
  | 15 => match st with | .int x :: .ref y :: st => K (i + 1) L (.int x :: .ref y :: .int x :: .ref y :: st) h cs ss | _ => False
  | 16 => match st with | .int _ :: st => K (i + 1) L st h cs ss | _ => False
  | 17 => match st with | .int x :: st => br1 a x (K b L st h cs ss) (K (i + 1) L st h cs ss) | _ => False
  | 18 => match st with | .int y :: .int x :: st => br2 a x y (K b L st h cs ss) (K (i + 1) L st h cs ss) | _ => False
  | 19 => match st with | .ref y :: .ref x :: st => (match a with | 0 => (x = y → K b L st h cs ss) ∧ (¬ x = y → K (i + 1) L st h cs ss) | _ => (¬ x = y → K b L st h cs ss) ∧ (x = y → K (i + 1) L st h cs ss)) | _ => False
  | 20 => K b L st h cs ss
  | 21 => match st, sw[a]? with | .int x :: st, some ts => swP (fun t => K t L st h cs ss) ts v x ∧ (x < v ∨ v + Int32.ofNat ts.length ≤ x → K b L st h cs ss) | _, _ => False
  | 22 => match st with | .ref p :: st => ∃ x, fI h (a + 1) p b x ∧ K (i + 1) L (.int x :: st) h cs ss | _ => False
  | 23 => match st with | .ref p :: st => ∃ x, fR h (a + 1) p b x ∧ K (i + 1) L (.ref x :: st) h cs ss | _ => False
  | 24 => match c, st with
    | 0, .int x :: .ref p :: st => fW G h (a + 1) p ∧ K (i + 1) L st (hset h p b (.int x)) cs ss
    | 1, .int x :: .ref p :: st => bret x (fW G h (a + 1) p ∧ K (i + 1) L st (hset h p b (.int x)) cs ss)
    | 2, .ref x :: .ref p :: st => fW G h (a + 1) p ∧ K (i + 1) L st (hset h p b (.ref x)) cs ss
    | _, _ => False
  | 25 => match st with | .int j :: .ref p :: st => ∃ x, aI h a p j x ∧ K (i + 1) L (.int x :: st) h cs ss | _ => False
  | 26 => match st with | .int j :: .ref p :: st => ∃ x, aR h a p j x ∧ K (i + 1) L (.ref x :: st) h cs ss | _ => False
  | 27 => match st with | .int j :: .ref p :: st => ∃ x, aL h p j x ∧ K (i + 1) L (.long x :: st) h cs ss | _ => False
  | 28 => match st with | .int x :: .int j :: .ref p :: st => aW G h 101 p j ∧ K (i + 1) L st (hset h p j.toNatClampNeg (.int x)) cs ss | _ => False
  | 29 => match st with | .int x :: .int j :: .ref p :: st => bret x (aW G h 102 p j ∧ K (i + 1) L st (hset h p j.toNatClampNeg (.int x)) cs ss) | _ => False
  | 30 => match st with | .int x :: .int j :: .ref p :: st => narrow .byte (.int x) = .int x ∧ aW G h 103 p j ∧ K (i + 1) L st (hset h p j.toNatClampNeg (.int x)) cs ss | _ => False
  | 31 => match st with | .long x :: .int j :: .ref p :: st => aW G h 104 p j ∧ K (i + 1) L st (hset h p j.toNatClampNeg (.long x)) cs ss | _ => False
  | 32 => match st with | .ref x :: .int j :: .ref p :: st => rK G h b x ∧ aW G h a p j ∧ K (i + 1) L st (hset h p j.toNatClampNeg (.ref x)) cs ss | _ => False
  | 33 => match st with | .ref p :: st => ∃ n, aN h a p n ∧ K (i + 1) L (.int n.toInt32 :: st) h cs ss | _ => False
  | 34 => (cs + 1 ≤ r.mc ∧ ss + clsN a ≤ r.ms) ∧ K (i + 1) L (.ref h.2.2 :: st) (hnew h (a + 1, clsN a) (dflt a)) (cs + 1) (ss + clsN a)
  | 35 => match st with | .int n :: st => (¬ n < 0 ∧ n ≤ 65536) ∧ (cs + 1 ≤ r.mc ∧ ss + n.toNatClampNeg ≤ r.ms) ∧ K (i + 1) L (.ref h.2.2 :: st) (hnew h (101 + a, n.toNatClampNeg) (fun _ => defaultValue (aty a))) (cs + 1) (ss + n.toNatClampNeg) | _ => False
  | 36 => match st with | .int n :: st => (¬ n < 0 ∧ n ≤ 65536) ∧ (cs + 1 ≤ r.mc ∧ ss + n.toNatClampNeg ≤ r.ms) ∧ K (i + 1) L (.ref h.2.2 :: st) (hnew h (101 + a, n.toNatClampNeg) (fun _ => .null)) (cs + 1) (ss + n.toNatClampNeg) | _ => False
  | 37 => match c with | 0 => ∃ x, G.st a = .ref x ∧ K (i + 1) L (.ref x :: st) h cs ss | 1 => ∃ x, G.st a = .int x ∧ K (i + 1) L (.int x :: st) h cs ss | _ => K (i + 1) L (G.st a :: st) h cs ss
  | 38 => match st with | .ref p :: st => (match c with | 0 => ∃ x, G.of a p = .ref x ∧ K (i + 1) L (.ref x :: st) h cs ss | _ => ∃ x, G.of a p = .int x ∧ K (i + 1) L (.int x :: st) h cs ss) | _ => False
  | 39 => K (i + 1) L (.ref (G.lit a) :: st) h cs ss
  | 40 => match cl[a]? with
    | some (q, n, _) => (match c with
      | 0 => gs n st (gz q (∃ x, EvI G q (st.take n).reverse h x ∧ K (i + 1) L (.int x :: st.drop n) h cs ss))
      | c => match st.drop n with | .ref p :: s2 => gd s2 (gz q (rK G h c p ∧ ∃ x, EvI G q (.ref p :: (st.take n).reverse) h x ∧ K (i + 1) L (.int x :: s2) h cs ss)) | _ => False)
    | none => False
  | 41 => match cl[a]? with
    | some (q, n, _) => (match c with
      | 0 => gs n st (∃ P1, EvM G q (st.take n).reverse h P1 ∧ bud r q cs ss (fun cs ss => ∀ o h', P1 o h' → (o = .inl none ∧ K (i + 1) L (st.drop n) h' cs ss) ∨ (∃ E, o = .inr E ∧ Post (.inr E) h')))
      | c => match st.drop n with | .ref p :: s2 => gd s2 (rK G h c p ∧ ∃ P1, EvM G q (.ref p :: (st.take n).reverse) h P1 ∧ bud r q cs ss (fun cs ss => ∀ o h', P1 o h' → (o = .inl none ∧ K (i + 1) L s2 h' cs ss) ∨ (∃ E, o = .inr E ∧ Post (.inr E) h'))) | _ => False)
    | none => False
  | 42 => match cl[a]? with
    | some (q, n, _) => (match c with
      | 0 => gs n st (∃ P1, EvM G q (st.take n).reverse h P1 ∧ bud r q cs ss (fun cs ss => ∀ o h', P1 o h' → (∃ x, o = .inl (some (.int x)) ∧ K (i + 1) L (.int x :: st.drop n) h' cs ss) ∨ (∃ E, o = .inr E ∧ Post (.inr E) h')))
      | c => match st.drop n with | .ref p :: s2 => gd s2 (rK G h c p ∧ ∃ P1, EvM G q (.ref p :: (st.take n).reverse) h P1 ∧ bud r q cs ss (fun cs ss => ∀ o h', P1 o h' → (∃ x, o = .inl (some (.int x)) ∧ K (i + 1) L (.int x :: s2) h' cs ss) ∨ (∃ E, o = .inr E ∧ Post (.inr E) h'))) | _ => False)
    | none => False
  | 43 => match cl[a]? with
    | some (q, n, _) => (match c with
      | 0 => gs n st (∃ P1, EvM G q (st.take n).reverse h P1 ∧ bud r q cs ss (fun cs ss => ∀ o h', P1 o h' → (∃ x, o = .inl (some (.ref x)) ∧ K (i + 1) L (.ref x :: st.drop n) h' cs ss) ∨ (∃ E, o = .inr E ∧ Post (.inr E) h')))
      | c => match st.drop n with | .ref p :: s2 => gd s2 (rK G h c p ∧ ∃ P1, EvM G q (.ref p :: (st.take n).reverse) h P1 ∧ bud r q cs ss (fun cs ss => ∀ o h', P1 o h' → (∃ x, o = .inl (some (.ref x)) ∧ K (i + 1) L (.ref x :: s2) h' cs ss) ∨ (∃ E, o = .inr E ∧ Post (.inr E) h'))) | _ => False)
    | none => False
  | 44 => match cl[a]? with
    | some (q, n, _) => (match st.drop n with | .ref p :: s2 => gd s2 (∃ P1, EvM G q (.ref p :: (st.take n).reverse) h P1 ∧ bud r q cs ss (fun cs ss => ∀ o h', P1 o h' → o = .inl none ∧ K (i + 1) L s2 h' cs ss)) | _ => False)
    | none => False
  | 46 => match st with | .ref _ :: st => gd st (gp r.dp 1 (K (i + 1) L st h cs ss)) | _ => False
  | 47 => match st with | [.int x] => (match c with | 0 => Post (.inl (some (.int x))) h | 1 => bret x (Post (.inl (some (.int x))) h) | 2 => narrow .byte (.int x) = .int x ∧ Post (.inl (some (.int x))) h | _ => narrow .char (.int x) = .int x ∧ Post (.inl (some (.int x))) h) | _ => False
  | 48 => match st with | [.ref x] => Post (.inl (some (.ref x))) h | _ => False
  | 49 => match st with | [] => Post (.inl none) h | _ => False
  | 50 => gd st (gp r.dp 6 (if cs + 1 ≤ r.mc ∧ ss + 6 ≤ r.ms then ∀ n', h.2.2 ≤ n' → Post (.inr (excs a)) (h.1, h.2.1, n') else False))
  | 51 => match st with | .int n :: .int d :: .ref p :: .int s :: .ref p0 :: st => gd st (gp r.dp 1 ((d = 0 ∧ s = 0) ∧ (∃ n0 n1, (aN h 101 p0 n0 ∧ aN h 101 p n1) ∧ ¬ n < 0 ∧ n.toNatClampNeg ≤ n0 ∧ n.toNatClampNeg ≤ n1) ∧ G.n0 ≤ p ∧ (∀ j, j < n.toNatClampNeg → ∃ x, h.2.1 p0 j = .int x) ∧ K (i + 1) L st (hcpy h p0 p n.toNatClampNeg) cs ss)) | _ => False
  | 52 => match st with | .ref p :: st => gd st (gp r.dp 1 (∃ n, aN h 101 p n ∧ G.n0 ≤ p ∧ (∀ j, j < n → ∃ x, h.2.1 p j = .int x) ∧ (cs + 1 ≤ r.mc ∧ ss + n ≤ r.ms) ∧ K (i + 1) L (.ref h.2.2 :: st) (hnew h (101, n) (h.2.1 p)) (cs + 1) (ss + n))) | _ => False
  | 53 => match st with | .ref p :: st => (∃ n, aN h 101 p n ∧ G.n0 ≤ p) ∧ K (i + 1) L (.ref p :: st) h cs ss | _ => False
  | 54 => match st with | .int y :: .int x :: st => gd st (gp r.dp 1 (K (i + 1) L (.int (imax x y) :: st) h cs ss)) | _ => False
  | 55 => match st with | .int y :: .int x :: st => gd st (gp r.dp 1 (K (i + 1) L (.int (imin x y) :: st) h cs ss)) | _ => False
  | _ => False
end
section
/-! ===== what a program decides of a method's table ===== -/
def wd (k : Nat) (w : Cond) : Bool := decide (lw_tbl[k]? = some w) && goodWord w
theorem wd_ok {k : Nat} {w : Cond} (h : wd k w = true) : w ∈ lw_good := by
  simp only [wd, Bool.and_eq_true, decide_eq_true_eq] at h
  exact List.mem_filter.mpr ⟨List.mem_of_getElem? h.1, h.2⟩
def pcAt (tb : List Ent) (j : Nat) : Nat := match tb[j]? with | some e => e.1 | none => 1000000
def n4 (a : Nat) (f : Fin 4 → Bool) : Bool := if h : a < 4 then f ⟨a, h⟩ else false
theorem n4_ok {a : Nat} {f : Fin 4 → Bool} (h : n4 a f = true) : ∃ k : Fin 4, (k : Nat) = a ∧ f k = true := by
  unfold n4 at h
  split at h
  · exact ⟨⟨a, ‹_›⟩, rfl, h⟩
  · cases h
def kdC (kd : Nat) (C : String) : Bool := if kd < 200 then (match cls[kd - 1]? with | some q => decide (1 ≤ kd) && decide (q.1 = C) | none => false) else decide (201 ≤ kd) && decide (ocs[kd - 201]? = some C)
def refT (o : Option FieldType) : Bool := match o with | some (.object _) => true | some (.array _) => true | _ => false
def binI (a : Nat) : Instr := match a with
  | 0 => .iadd
  | 1 => .isub
  | 2 => .imul
  | 3 => .iand
  | 4 => .ior
  | 5 => .ixor
  | 6 => .ishl
  | 7 => .ishr
  | _ => .iushr
def unI (a : Nat) : Instr := match a with
  | 0 => .ineg
  | 1 => .i2b
  | _ => .i2c
def arrT (a : Nat) : ArrayType := match a with
  | 0 => .int
  | 1 => .boolean
  | 2 => .byte
  | _ => .long
/-- method's class, name, bytes, locals, answer; callees; switches; the table; a place; what stands there -/
def eok (own nm : String) (bytes : ByteArray) (ml : Nat) (rt : Option FieldType) (cl : List (MethodName × Nat × Nat)) (sw : List (List Nat)) (tb : List Ent) (i pc : Nat) (ins : Instr) (len op a b c w : Nat) (v : Int32) : Bool :=
  decide (decode bytes pc = .ok (ins, len)) && (match op with
  | 1 => decide (pcAt tb (i + 1) = pc + len) && (decide (ins = .iload a ∧ len = 2) || n4 a (fun k => decide (ins = .iload_n k ∧ len = 1)))
  | 2 => decide (pcAt tb (i + 1) = pc + len) && (decide (ins = .aload a ∧ len = 2) || n4 a (fun k => decide (ins = .aload_n k ∧ len = 1)))
  | 3 => decide (pcAt tb (i + 1) = pc + len) && decide (a < ml) && (decide (ins = .istore a ∧ len = 2) || n4 a (fun k => decide (ins = .istore_n k ∧ len = 1)))
  | 4 => decide (pcAt tb (i + 1) = pc + len) && decide (a < ml) && (decide (ins = .astore a ∧ len = 2) || n4 a (fun k => decide (ins = .astore_n k ∧ len = 1)))
  | 5 => decide (pcAt tb (i + 1) = pc + len) && (decide (ins = .iconst v.toInt ∧ len = 1 ∧ Int32.ofInt v.toInt = v) || decide (ins = .bipush v.toInt ∧ len = 2 ∧ (Int8.ofInt v.toInt).toInt32 = v) || decide (ins = .sipush v.toInt ∧ len = 3 ∧ (Int16.ofInt v.toInt).toInt32 = v) || (decide (ins = .ldc b ∧ len = 2) && wd w (.constant own b v)) || (decide (ins = .ldc_w b ∧ len = 3) && wd w (.constant own b v)))
  | 6 => decide (pcAt tb (i + 1) = pc + len) && decide (a < ml) && decide (ins = .iinc a v.toInt ∧ len = 3 ∧ Int32.ofInt v.toInt = v)
  | 7 => decide (pcAt tb (i + 1) = pc + len) && decide (ins = binI a ∧ len = 1)
  | 8 => decide (pcAt tb (i + 1) = pc + len) && decide (ins = .idiv ∧ len = 1)
  | 9 => decide (pcAt tb (i + 1) = pc + len) && decide (ins = .irem ∧ len = 1)
  | 10 => decide (pcAt tb (i + 1) = pc + len) && decide (ins = unI a ∧ len = 1)
  | 11 => decide (pcAt tb (i + 1) = pc + len) && decide (ins = .i2l ∧ len = 1)
  | 12 => decide (pcAt tb (i + 1) = pc + len) && decide (ins = .lcmp ∧ len = 1)
  | 13 => decide (pcAt tb (i + 1) = pc + len) && (decide (a = 0 ∧ ins = .lconst 0 ∧ len = 1) || decide (a = 1 ∧ ins = .lconst 1 ∧ len = 1))
  | 14 => decide (pcAt tb (i + 1) = pc + len) && decide (ins = .dup ∧ len = 1)
  | 15 => decide (pcAt tb (i + 1) = pc + len) && decide (ins = .dup2 ∧ len = 1)
  | 16 => decide (pcAt tb (i + 1) = pc + len) && decide (ins = .pop ∧ len = 1)
  | 17 => decide (pcAt tb (i + 1) = pc + len) && decide (ins = .ifCond (cndI a) ((pcAt tb b : Int) - pc) ∧ len = 3)
  | 18 => decide (pcAt tb (i + 1) = pc + len) && decide (ins = .if_icmp (cndI a) ((pcAt tb b : Int) - pc) ∧ len = 3)
  | 19 => decide (pcAt tb (i + 1) = pc + len) && (decide (a = 0 ∧ ins = .if_acmp .eq ((pcAt tb b : Int) - pc) ∧ len = 3) || decide (a = 1 ∧ ins = .if_acmp .ne ((pcAt tb b : Int) - pc) ∧ len = 3))
  | 20 => decide (ins = .goto ((pcAt tb b : Int) - pc) ∧ len = 3)
  | 21 => match sw[a]? with | some ts => decide (ins = .tableswitch ((pcAt tb b : Int) - pc) v.toInt (v.toInt + ts.length - 1) (ts.map (fun t => (pcAt tb t : Int) - pc)).toArray) && decide (-1000 ≤ v.toInt) && decide (v.toInt ≤ 1000) && decide (ts.length ≤ 1000) | none => false
  | 22 => decide (pcAt tb (i + 1) = pc + len) && decide (len = 3) && (match ins, cls[a]? with | .getfield x, some q => decide (b < q.2.2) && wd w (.fieldLink own x (q.2.1 b).1 (q.2.1 b).2.1 (q.2.1 b).2.2.1) | _, _ => false)
  | 23 => decide (pcAt tb (i + 1) = pc + len) && decide (len = 3) && (match ins, cls[a]? with | .getfield x, some q => decide (b < q.2.2) && wd w (.fieldLink own x (q.2.1 b).1 (q.2.1 b).2.1 (q.2.1 b).2.2.1) | _, _ => false)
  | 24 => decide (pcAt tb (i + 1) = pc + len) && decide (len = 3) && (match ins, cls[a]? with
    | .putfield x, some q => decide (b < q.2.2) && wd w (.fieldLink own x (q.2.1 b).1 (q.2.1 b).2.1 (q.2.1 b).2.2.1) && (!(q.2.1 b).2.2.2 || (decide (nm = "<init>") && decide ((q.2.1 b).1 = own))) &&
      (if c = 0 then decide (parseFieldDescriptor (q.2.1 b).2.2.1 = some .int) else if c = 1 then decide (parseFieldDescriptor (q.2.1 b).2.2.1 = some .boolean) else refT (parseFieldDescriptor (q.2.1 b).2.2.1))
    | _, _ => false)
  | 25 => decide (pcAt tb (i + 1) = pc + len) && decide (len = 1) && (decide (a = 101 ∧ ins = .iaload) || decide (a = 102 ∧ ins = .baload) || decide (a = 103 ∧ ins = .baload))
  | 26 => decide (pcAt tb (i + 1) = pc + len) && decide (len = 1) && decide (105 ≤ a ∧ ins = .aaload)
  | 27 => decide (pcAt tb (i + 1) = pc + len) && decide (len = 1 ∧ ins = .laload)
  | 28 => decide (pcAt tb (i + 1) = pc + len) && decide (len = 1 ∧ ins = .iastore)
  | 29 => decide (pcAt tb (i + 1) = pc + len) && decide (len = 1 ∧ ins = .bastore)
  | 30 => decide (pcAt tb (i + 1) = pc + len) && decide (len = 1 ∧ ins = .bastore)
  | 31 => decide (pcAt tb (i + 1) = pc + len) && decide (len = 1 ∧ ins = .lastore)
  | 32 => decide (pcAt tb (i + 1) = pc + len) && decide (len = 1 ∧ ins = .aastore) && (decide (a = 105 ∧ b = 201) || decide (a = 106 ∧ b = 8))
  | 33 => decide (pcAt tb (i + 1) = pc + len) && decide (len = 1 ∧ ins = .arraylength) && decide (101 ≤ a)
  | 34 => decide (pcAt tb (i + 1) = pc + len) && decide (len = 3) && (match ins, cls[a]? with | .new x, some q => wd w (.classLink own x q.1) && wd b (.instantiable q.1 q.2.2) && wd c (.initialized q.1) | _, _ => false)
  | 35 => decide (pcAt tb (i + 1) = pc + len) && decide (len = 2 ∧ ins = .newarray (arrT a) ∧ a < 4) && wd w (.arrayClass (aty a))
  | 36 => decide (pcAt tb (i + 1) = pc + len) && decide (len = 3) && (match ins with | .anewarray x => (decide (a = 4) && wd w (.classLink own x "GripEstates$Token")) || (decide (a = 5) && wd w (.classLink own x "GripEstates$Valley")) | _ => false)
  | 37 => decide (pcAt tb (i + 1) = pc + len) && decide (len = 3) && (match ins, sts[a]? with | .getstatic x, some q => wd w (.fieldLink own x q.1 q.2.1 q.2.2) | _, _ => false)
  | 38 => decide (pcAt tb (i + 1) = pc + len) && decide (len = 3) && (match ins, ofs[a]? with | .getfield x, some q => wd w (.fieldLink own x q.1 q.2.1 q.2.2) | _, _ => false)
  | 39 => decide (pcAt tb (i + 1) = pc + len) && decide (len = 2) && (match ins, lits[a]? with | .ldc x, some q => decide (q.1 = own ∧ q.2.1 = x) | _, _ => false)
  | 40 => decide (pcAt tb (i + 1) = pc + len) && decide (len = 3) && (match cl[a]? with
    | some q => (match ins, c with | .invokestatic x, 0 => wd w (.methodLink own x q.1) && decide (q.2.2 = 0) | .invokevirtual x, c + 1 => wd w (.methodLink own x q.1) && kdC (c + 1) q.1.cls && decide (q.2.2 = 1) | _, _ => false)
    | none => false)
  | 41 => decide (pcAt tb (i + 1) = pc + len) && decide (len = 3) && (match cl[a]? with
    | some q => (match ins, c with | .invokestatic x, 0 => wd w (.methodLink own x q.1) && decide (q.2.2 = 0) | .invokevirtual x, c + 1 => wd w (.methodLink own x q.1) && kdC (c + 1) q.1.cls && decide (q.2.2 = 1) | _, _ => false)
    | none => false)
  | 42 => decide (pcAt tb (i + 1) = pc + len) && decide (len = 3) && (match cl[a]? with
    | some q => (match ins, c with | .invokestatic x, 0 => wd w (.methodLink own x q.1) && decide (q.2.2 = 0) | .invokevirtual x, c + 1 => wd w (.methodLink own x q.1) && kdC (c + 1) q.1.cls && decide (q.2.2 = 1) | _, _ => false)
    | none => false)
  | 43 => decide (pcAt tb (i + 1) = pc + len) && decide (len = 3) && (match cl[a]? with
    | some q => (match ins, c with | .invokestatic x, 0 => wd w (.methodLink own x q.1) && decide (q.2.2 = 0) | .invokevirtual x, c + 1 => wd w (.methodLink own x q.1) && kdC (c + 1) q.1.cls && decide (q.2.2 = 1) | _, _ => false)
    | none => false)
  | 44 => decide (pcAt tb (i + 1) = pc + len) && decide (len = 3) && (match ins, cl[a]? with | .invokespecial x, some q => (wd w (.methodLink own x q.1) || decide ((own, x, q.1, "GripEstates") ∈ nests)) && decide (q.2.2 = 2) | _, _ => false)
  | 46 => decide (pcAt tb (i + 1) = pc + len) && decide (len = 3) && (match ins with | .invokespecial x => wd w (.methodLink own x objectInit) | _ => false)
  | 47 => decide (len = 1 ∧ ins = .ireturn) && (match c with | 0 => decide (rt = some .int) | 1 => decide (rt = some .boolean) | 2 => decide (rt = some .byte) | _ => decide (rt = some .char))
  | 48 => decide (len = 1 ∧ ins = .areturn) && (match rt with | some (.object _) => true | _ => false)
  | 49 => decide (len = 1 ∧ ins = .return_ ∧ rt = none)
  | 50 => decide (len = 3 ∧ decode bytes (pc + 3) = .ok (.dup, 1) ∧ decode bytes (pc + 4) = .ok (.invokespecial b, 3) ∧ decode bytes (pc + 7) = .ok (.athrow, 1)) && (match ins with | .new x => xOK own x b (excs a) | _ => false)
  | 51 => decide (pcAt tb (i + 1) = pc + len) && decide (len = 3) && (match ins with | .invokestatic x => wd w (.methodLink own x arraycopyName) | _ => false)
  | 52 => decide (pcAt tb (i + 1) = pc + len) && decide (len = 3) && (match ins with | .invokevirtual x => wd w (.methodLink own x ⟨"[I", "clone", "()Ljava/lang/Object;"⟩) | _ => false)
  | 53 => decide (pcAt tb (i + 1) = pc + len) && decide (len = 3) && (match ins with | .checkcast x => wd w (.classLink own x "[I") | _ => false)
  | 54 => decide (pcAt tb (i + 1) = pc + len) && decide (len = 3) && (match ins with | .invokestatic x => wd w (.methodLink own x Lib.Math.max.name) | _ => false)
  | 55 => decide (pcAt tb (i + 1) = pc + len) && decide (len = 3) && (match ins with | .invokestatic x => wd w (.methodLink own x Lib.Math.min.name) | _ => false)
  | 99 => true
  | _ => false)
/-- what is asked of a callee -/
def cOK (q : Mr) (n f : Nat) : Prop := Cond.code q.1 q.2.1 q.ml q.rt ∈ lw_good ∧ Cond.initialized q.1.cls ∈ lw_good ∧ plainB q.1 n = true ∧ q.ml ≤ 45 ∧ (f = 0 → Cond.static q.1 ∈ lw_good) ∧ (f = 1 → Cond.instanceMethod q.1 ∈ lw_good ∧ Cond.selects q.1.cls q.1 q.1 ∈ lw_good) ∧ (f = 2 → Cond.instanceMethod q.1 ∈ lw_good ∧ q.1.name = "<init>" ∧ q.rt = none)
def TOK (r : Mr) (cl : List (Mr × Nat × Nat)) (sw : List (List Nat)) (tb : List Ent) : Prop :=
  (∀ (i : Nat) (e : Ent), tb[i]? = some e → eok r.1.cls r.1.name r.2.1 r.ml r.rt (cl.map fun q => (q.1.1, q.2.1, q.2.2)) sw tb i e.1 e.2.1 e.2.2.1 e.2.2.2.1 e.2.2.2.2.1 e.2.2.2.2.2.1 e.2.2.2.2.2.2.1 e.2.2.2.2.2.2.2.1 e.2.2.2.2.2.2.2.2 = true) ∧ ∀ q ∈ cl, cOK q.1 q.2.1 q.2.2 ∧ q.1.dp + 1 ≤ r.dp
/-- in one go -/
def tokB (own nm : String) (bytes : ByteArray) (ml : Nat) (rt : Option FieldType) (cl : List (MethodName × Nat × Nat)) (sw : List (List Nat)) (tb : List Ent) : Bool := tb.zipIdx.all (fun z => eok own nm bytes ml rt cl sw tb z.2 z.1.1 z.1.2.1 z.1.2.2.1 z.1.2.2.2.1 z.1.2.2.2.2.1 z.1.2.2.2.2.2.1 z.1.2.2.2.2.2.2.1 z.1.2.2.2.2.2.2.2.1 z.1.2.2.2.2.2.2.2.2)
theorem tokB_ok {own nm : String} {bytes : ByteArray} {ml : Nat} {rt : Option FieldType} {cl : List (MethodName × Nat × Nat)} {sw : List (List Nat)} {tb : List Ent} (h : tokB own nm bytes ml rt cl sw tb = true) : ∀ (i : Nat) (e : Ent), tb[i]? = some e → eok own nm bytes ml rt cl sw tb i e.1 e.2.1 e.2.2.1 e.2.2.2.1 e.2.2.2.2.1 e.2.2.2.2.2.1 e.2.2.2.2.2.2.1 e.2.2.2.2.2.2.2.1 e.2.2.2.2.2.2.2.2 = true := by
  intro i e hi
  exact List.all_eq_true.mp h (e, i) (by rw [List.mem_zipIdx_iff_getElem?]; exact hi)
end
section
/-! ===== the table's pieces are right ===== -/
section SND
variable {G : Gx} {r : Mr} {pc : Nat} {cl : List (Mr × Nat × Nat)} {sw : List (List Nat)} {tb : List Ent} {L st : List Value} {h : Hp} {cs ss : Nat} {Post : Res → Hp → Prop} {K : Kt}
def KOK (G : Gx) (r : Mr) (tb : List Ent) (Post : Res → Hp → Prop) (K : Kt) : Prop := ∀ (j : Nat) (L st : List Value) (h : Hp) (cs ss : Nat), K j L st h cs ss → ∃ e, tb[j]? = some e ∧ Ev G r e.1 L st h cs ss Post
theorem KOK.nx (hK : KOK G r tb Post K) {j n : Nat} (hp : pcAt tb j = n) (H : K j L st h cs ss) : Ev G r n L st h cs ss Post := by
  obtain ⟨e, h1, h2⟩ := hK j L st h cs ss H
  rw [← hp, pcAt, h1]
  exact h2
theorem off_ok (pc t : Nat) : (pc : Int) + ((t : Int) - pc) = (t : Int) := by omega
theorem clamp_le {n : Int32} {m : Nat} (hm : m < 2 ^ 31) (h : n ≤ Int32.ofNat m) : n.toNatClampNeg ≤ m := by
  have h1 := Int32.le_iff_toInt_le.mp h
  have h2 : (Int32.ofNat m).toInt = (m : Int) := nI_toInt hm
  rw [h2] at h1
  show n.toInt.toNat ≤ m
  omega
theorem aty_bytes {a : Nat} (ha : a < 4) : componentBytes (aty a) ≤ 8 := by
  have : a = 0 ∨ a = 1 ∨ a = 2 ∨ a = 3 := by omega
  rcases this with rfl | rfl | rfl | rfl <;> decide
theorem arrT_ok {a : Nat} (ha : a < 4) : newarray.typeOf (arrT a) = aty a := by
  have : a = 0 ∨ a = 1 ∨ a = 2 ∨ a = 3 := by omega
  rcases this with rfl | rfl | rfl | rfl <;> rfl
theorem rK_rcv {kd b : Nat} {C : String} (hC : kdC kd C = true) (hk : rK G h kd b) : rcv G h C b := by
  unfold kdC at hC
  unfold rK at hk
  split at hC
  · rw [if_pos ‹_›] at hk
    split at hC
    · rename_i q hq
      simp only [Bool.and_eq_true, decide_eq_true_eq] at hC
      exact Or.inl ⟨kd - 1, q.2.2, q.2.1, by rw [hq, ← hC.2], by omega⟩
    · cases hC
  · rw [if_neg ‹_›] at hk
    simp only [Bool.and_eq_true, decide_eq_true_eq] at hC
    exact Or.inr ⟨kd - 201, hC.2, by omega⟩
theorem dflt_ok {ci N : Nat} {C : String} {T : u_T} (hc : cls[ci]? = some (C, T, N)) : ∀ k, k < N → ∃ ty, parseFieldDescriptor (T k).2.2.1 = some ty ∧ dflt ci k = defaultValue ty := by
  intro k hk
  obtain ⟨ty, hty⟩ := (cls_ok hc).2.1 k hk
  have hty' : parseFieldDescriptor (T k).2.2.1 = some ty := hty
  exact ⟨ty, hty, by simp only [dflt, hc, hty']⟩
theorem narrow_b {x : Int32} (h : x = 0 ∨ x = 1) : narrow .boolean (.int x) = .int x ∧ fits .boolean (.int x) = true := by
  rcases h with rfl | rfl <;> decide
theorem swP_get {K : Nat → Prop} : ∀ (ts : List Nat) (v x : Int32) (k t : Nat), swP K ts v x → ts[k]? = some t → x = v + Int32.ofNat k → K t
  | [], _, _, _, _, _, h, _ => by simp at h
  | t :: ts, v, x, 0, t', hs, h, hx => by
    cases h
    exact hs.1 (by rw [hx]; show v + 0 = v; simp)
  | t :: ts, v, x, k + 1, t', hs, h, hx => by
    refine swP_get ts (v + 1) x k t' hs.2 h ?_
    rw [hx, show Int32.ofNat (k + 1) = Int32.ofNat k + 1 from nI_succ k, Int32.add_assoc, Int32.add_comm 1]
theorem bud_split {q : Mr} {P : Nat → Nat → Prop} (h1 : cs ≤ r.mc) (h2 : ss ≤ r.ms) (hb : bud r q cs ss P) : (cs + q.mc ≤ r.mc ∧ ss + q.ms ≤ r.ms) ∧ P (cs + q.mc) (ss + q.ms) := by
  unfold bud at hb
  split at hb
  · rename_i hz
    rw [hz.1, hz.2]
    exact ⟨⟨h1, h2⟩, hb⟩
  · exact hb
/-- the counts are within -/
theorem Ev.within (k : cs ≤ r.mc → ss ≤ r.ms → Ev G r pc L st h cs ss Post) : Ev G r pc L st h cs ss Post :=
  fun p e s m args below meth c ls H locs F hl hR hS h1 h2 => k h1 h2 p e s m args below meth c ls H locs F hl hR hS h1 h2
end SND
end
section
/-! ===== one instruction of the table: right ===== -/
theorem gd_in {l : List Value} {P : Prop} (hg : gd l P) : (l.map fun v => v.category).sum ≤ 8 ∧ P := by
  unfold gd at hg
  split at hg
  · rename_i hle
    refine ⟨?_, hg⟩
    have key : ∀ l : List Value, (l.map fun v => v.category).sum ≤ 2 * l.length := by
      intro l
      induction l with
      | nil => simp
      | cons x l ih =>
        have : x.category ≤ 2 := by rcases lv_cat x with z | z <;> omega
        simp only [List.map_cons, List.sum_cons, List.length_cons]
        omega
    have := key l
    omega
  · exact hg.elim
theorem gs_in {n : Nat} {l : List Value} {P : Prop} (hg : gs n l P) : n ≤ l.length ∧ ((l.drop n).map fun v => v.category).sum ≤ 8 ∧ P := by
  unfold gs at hg
  split at hg
  · rename_i hle
    have := gd_in (l := l.drop n) (P := P) (by unfold gd; rw [if_pos hle.2]; exact hg)
    exact ⟨hle.1, this.1, hg⟩
  · exact hg.elim
theorem gp_in {d n : Nat} {P : Prop} (hg : gp d n P) : n ≤ d ∧ P := by
  unfold gp at hg
  split at hg
  · exact ⟨‹_›, hg⟩
  · exact hg.elim
theorem gz_in {q : Mr} {P : Prop} (hg : gz q P) : (q.mc = 0 ∧ q.ms = 0) ∧ P := by
  unfold gz at hg
  split at hg
  · exact ⟨‹_›, hg⟩
  · exact hg.elim
theorem refT_ok {o : Option FieldType} (h : refT o = true) : ∃ ty, o = some ty ∧ ((∃ n, ty = .object n) ∨ ∃ n, ty = .array n) := by
  unfold refT at h
  split at h
  · exact ⟨_, rfl, Or.inl ⟨_, rfl⟩⟩
  · exact ⟨_, rfl, Or.inr ⟨_, rfl⟩⟩
  · cases h
section STP
variable {G : Gx} {r q : Mr} {pc : Nat} {cl : List (Mr × Nat × Nat)} {sw : List (List Nat)} {tb : List Ent} {L st : List Value} {h : Hp} {cs ss : Nat} {Post : Res → Hp → Prop} {K : Kt} {i len a b c w n f : Nat} {ins : Instr} {v : Int32}
theorem take_drop_eq (st : List Value) (n : Nat) : st = ((st.take n).reverse).reverse ++ st.drop n := by simp
theorem cl_map {q' : MethodName × Nat × Nat} (hc : cl[a]? = some (q, n, f)) (hq : (cl.map fun q => (q.1.1, q.2.1, q.2.2))[a]? = some q') : q' = (q.1, n, f) := by
  rw [List.getElem?_map, hc] at hq
  exact (Option.some.inj hq).symm
/-- a static call -/
theorem st_S {P1 : Res → Hp → Prop} {x : Nat} (hT : cOK q n f ∧ q.dp + 1 ≤ r.dp) (hf : f = 0) (hlen : n ≤ st.length) (hst : ((st.drop n).map fun v => v.category).sum ≤ 8) (hw : Cond.methodLink r.1.cls x q.1 ∈ lw_good) (hd : decode r.2.1 pc = .ok (.invokestatic x, 3)) (hM : EvM G q (st.take n).reverse h P1)
    (k : cs ≤ r.mc → ss ≤ r.ms → (cs + q.mc ≤ r.mc ∧ ss + q.ms ≤ r.ms) ∧ (∀ v h', P1 (.inl v) h' → Ev G r (pc + 3) L (v.toList ++ st.drop n) h' (cs + q.mc) (ss + q.ms) Post) ∧ (∀ E h', P1 (.inr E) h' → Post (.inr E) h')) : Ev G r pc L st h cs ss Post := by
  refine Ev.within fun h1 h2 => ?_
  obtain ⟨⟨k1, k2⟩, k3, k4⟩ := k h1 h2
  obtain ⟨⟨o1, o2, o3, o4, o5, -, -⟩, o8⟩ := hT
  rw [take_drop_eq st n]
  exact ev_callS hM o1 hw o2 (o5 hf) (by rw [List.length_reverse, List.length_take, Nat.min_eq_left hlen]; exact o3) o8 o4 hst hd k1 k2 k3 k4
theorem st_V {P1 : Res → Hp → Prop} {x p kd : Nat} {s2 : List Value} (hT : cOK q n f ∧ q.dp + 1 ≤ r.dp) (hf : f = 1) (hdr : st.drop n = .ref p :: s2) (hst : (s2.map fun v => v.category).sum ≤ 8) (hw : Cond.methodLink r.1.cls x q.1 ∈ lw_good) (hkd : kdC kd q.1.cls = true) (hrk : rK G h kd p) (hd : decode r.2.1 pc = .ok (.invokevirtual x, 3)) (hM : EvM G q (.ref p :: (st.take n).reverse) h P1)
    (k : cs ≤ r.mc → ss ≤ r.ms → (cs + q.mc ≤ r.mc ∧ ss + q.ms ≤ r.ms) ∧ (∀ v h', P1 (.inl v) h' → Ev G r (pc + 3) L (v.toList ++ s2) h' (cs + q.mc) (ss + q.ms) Post) ∧ (∀ E h', P1 (.inr E) h' → Post (.inr E) h')) : Ev G r pc L st h cs ss Post := by
  refine Ev.within fun h1 h2 => ?_
  obtain ⟨⟨k1, k2⟩, k3, k4⟩ := k h1 h2
  obtain ⟨⟨o1, o2, o3, o4, -, o6, -⟩, o8⟩ := hT
  have hlen : n ≤ st.length := by
    by_cases z : n ≤ st.length
    · exact z
    · rw [List.drop_eq_nil_of_le (by omega)] at hdr; cases hdr
  rw [take_drop_eq st n, hdr]
  exact ev_callV hM o1 hw o2 (o6 hf).1 (o6 hf).2 (by rw [List.length_reverse, List.length_take, Nat.min_eq_left hlen]; exact o3) o8 o4 (rK_rcv hkd hrk) hst hd k1 k2 k3 k4
theorem st_I {P1 : Res → Hp → Prop} {x p : Nat} {s2 : List Value} (hT : cOK q n f ∧ q.dp + 1 ≤ r.dp) (hf : f = 2) (hdr : st.drop n = .ref p :: s2) (hst : (s2.map fun v => v.category).sum ≤ 8) (hw : Cond.methodLink r.1.cls x q.1 ∈ lw_good ∨ (r.1.cls, x, q.1, "GripEstates") ∈ nests) (hd : decode r.2.1 pc = .ok (.invokespecial x, 3)) (hM : EvM G q (.ref p :: (st.take n).reverse) h P1) (hno : ∀ E h', ¬ P1 (.inr E) h')
    (k : cs ≤ r.mc → ss ≤ r.ms → (cs + q.mc ≤ r.mc ∧ ss + q.ms ≤ r.ms) ∧ (∀ v h', P1 (.inl v) h' → Ev G r (pc + 3) L (v.toList ++ s2) h' (cs + q.mc) (ss + q.ms) Post)) : Ev G r pc L st h cs ss Post := by
  refine Ev.within fun h1 h2 => ?_
  obtain ⟨⟨k1, k2⟩, k3⟩ := k h1 h2
  obtain ⟨⟨o1, o2, o3, o4, -, -, o7⟩, o8⟩ := hT
  obtain ⟨o71, o72, o73⟩ := o7 hf
  have hlen : n ≤ st.length := by
    by_cases z : n ≤ st.length
    · exact z
    · rw [List.drop_eq_nil_of_le (by omega)] at hdr; cases hdr
  have o1' : Cond.code q.1 q.2.1 q.ml none ∈ lw_good := by rw [o73] at o1; exact o1
  rw [take_drop_eq st n, hdr]
  rcases hw with hw | hw
  · exact ev_callI hM hno o73 o1' hw o2 o71 o72 (by rw [List.length_reverse, List.length_take, Nat.min_eq_left hlen]; exact o3) o8 o4 hst hd k1 k2 k3
  · exact ev_callIN hM hno o73 o1' hw o2 o71 o72 (by rw [List.length_reverse, List.length_take, Nat.min_eq_left hlen]; exact o3) o8 o4 hst hd k1 k2 k3
theorem kcall_v {P1 : Res → Hp → Prop} {s2 : List Value} (hK : KOK G r tb Post K) (hn : pcAt tb (i + 1) = pc + 3) (H : bud r q cs ss (fun cs ss => ∀ o h', P1 o h' → (o = .inl none ∧ K (i + 1) L s2 h' cs ss) ∨ (∃ E, o = .inr E ∧ Post (.inr E) h'))) :
    cs ≤ r.mc → ss ≤ r.ms → (cs + q.mc ≤ r.mc ∧ ss + q.ms ≤ r.ms) ∧ (∀ v h', P1 (.inl v) h' → Ev G r (pc + 3) L (v.toList ++ s2) h' (cs + q.mc) (ss + q.ms) Post) ∧ (∀ E h', P1 (.inr E) h' → Post (.inr E) h') := by
  intro h1 h2
  obtain ⟨hb, H⟩ := bud_split h1 h2 H
  refine ⟨hb, fun v h' hp => ?_, fun E h' hp => ?_⟩
  · rcases H _ h' hp with ⟨e1, k⟩ | ⟨E, e1, -⟩
    · cases e1
      exact hK.nx hn k
    · cases e1
  · rcases H _ h' hp with ⟨e1, -⟩ | ⟨E', e1, k⟩
    · cases e1
    · cases e1
      exact k
theorem kcall_i {P1 : Res → Hp → Prop} {s2 : List Value} (hK : KOK G r tb Post K) (hn : pcAt tb (i + 1) = pc + 3) (H : bud r q cs ss (fun cs ss => ∀ o h', P1 o h' → (∃ x, o = .inl (some (.int x)) ∧ K (i + 1) L (.int x :: s2) h' cs ss) ∨ (∃ E, o = .inr E ∧ Post (.inr E) h'))) :
    cs ≤ r.mc → ss ≤ r.ms → (cs + q.mc ≤ r.mc ∧ ss + q.ms ≤ r.ms) ∧ (∀ v h', P1 (.inl v) h' → Ev G r (pc + 3) L (v.toList ++ s2) h' (cs + q.mc) (ss + q.ms) Post) ∧ (∀ E h', P1 (.inr E) h' → Post (.inr E) h') := by
  intro h1 h2
  obtain ⟨hb, H⟩ := bud_split h1 h2 H
  refine ⟨hb, fun v h' hp => ?_, fun E h' hp => ?_⟩
  · rcases H _ h' hp with ⟨x, e1, k⟩ | ⟨E, e1, -⟩
    · cases e1
      exact hK.nx hn k
    · cases e1
  · rcases H _ h' hp with ⟨x, e1, -⟩ | ⟨E', e1, k⟩
    · cases e1
    · cases e1
      exact k
theorem kcall_r {P1 : Res → Hp → Prop} {s2 : List Value} (hK : KOK G r tb Post K) (hn : pcAt tb (i + 1) = pc + 3) (H : bud r q cs ss (fun cs ss => ∀ o h', P1 o h' → (∃ x, o = .inl (some (.ref x)) ∧ K (i + 1) L (.ref x :: s2) h' cs ss) ∨ (∃ E, o = .inr E ∧ Post (.inr E) h'))) :
    cs ≤ r.mc → ss ≤ r.ms → (cs + q.mc ≤ r.mc ∧ ss + q.ms ≤ r.ms) ∧ (∀ v h', P1 (.inl v) h' → Ev G r (pc + 3) L (v.toList ++ s2) h' (cs + q.mc) (ss + q.ms) Post) ∧ (∀ E h', P1 (.inr E) h' → Post (.inr E) h') := by
  intro h1 h2
  obtain ⟨hb, H⟩ := bud_split h1 h2 H
  refine ⟨hb, fun v h' hp => ?_, fun E h' hp => ?_⟩
  · rcases H _ h' hp with ⟨x, e1, k⟩ | ⟨E, e1, -⟩
    · cases e1
      exact hK.nx hn k
    · cases e1
  · rcases H _ h' hp with ⟨x, e1, -⟩ | ⟨E', e1, k⟩
    · cases e1
    · cases e1
      exact k
theorem kcall_c {P1 : Res → Hp → Prop} {s2 : List Value} (hK : KOK G r tb Post K) (hn : pcAt tb (i + 1) = pc + 3) (H : bud r q cs ss (fun cs ss => ∀ o h', P1 o h' → o = .inl none ∧ K (i + 1) L s2 h' cs ss)) :
    cs ≤ r.mc → ss ≤ r.ms → (cs + q.mc ≤ r.mc ∧ ss + q.ms ≤ r.ms) ∧ (∀ v h', P1 (.inl v) h' → Ev G r (pc + 3) L (v.toList ++ s2) h' (cs + q.mc) (ss + q.ms) Post) := by
  intro h1 h2
  obtain ⟨hb, H⟩ := bud_split h1 h2 H
  refine ⟨hb, fun v h' hp => ?_⟩
  obtain ⟨e1, k⟩ := H _ h' hp
  cases e1
  exact hK.nx hn k
theorem bud_no {P1 : Res → Hp → Prop} {X : Hp → Nat → Nat → Prop} (H : bud r q cs ss (fun cs ss => ∀ o h', P1 o h' → o = .inl none ∧ X h' cs ss)) : ∀ E h', ¬ P1 (.inr E) h' := by
  intro E h' hp
  unfold bud at H
  split at H
  · cases (H _ h' hp).1
  · cases (H.2 _ h' hp).1
theorem ev_castI {a n idx : Nat} (hw : Cond.classLink r.1.cls idx "[I" ∈ lw_good) (ha : G.n0 ≤ a) (hk : h.1 a = (101, n)) (hd : decode r.2.1 pc = .ok (.checkcast idx, 3)) (kk : Ev G r (pc + 3) L (.ref a :: st) h cs ss Post) : Ev G r pc L (.ref a :: st) h cs ss Post := by
  intro p e s m args below meth c ls H locs F hl hR hS h1 h2
  obtain ⟨cell, q1, q2, q3, q4, q5, q6, q7⟩ := hR.arr (j := 0) hk
  have hnm : s.vm.findClass "[I" = some cell.cls := q7 ha
  intro T hT X
  obtain ⟨vm', X', stp⟩ := X.checkcastYes F.1 F.2.2.2.2.1 (F.2.2.2.2.2.1 _ hw) (by rw [hT]; exact q1) (by cases hv : cell.vm <;> first | rfl | exact absurd hv (q2.1 _)) hnm (va_asg _ _) (g := F0 m pc ls (.ref a :: st)) rfl rfl (by rw [F.2.1]; exact hd)
  obtain ⟨t, a1, b1⟩ := kk p e s m args below meth c ls H locs F hl hR hS h1 h2 (T.setVm vm') hT X'
  exact ⟨t, stp t a1, b1⟩
theorem ev_mmax {idx : Nat} {x y : Int32} (hw : Cond.methodLink r.1.cls idx Lib.Math.max.name ∈ lw_good) (hd : decode r.2.1 pc = .ok (.invokestatic idx, 3)) (hdp : 1 ≤ r.dp) (hst : (st.map fun v => v.category).sum ≤ 8) (kk : Ev G r (pc + 3) L (.int (imax x y) :: st) h cs ss Post) : Ev G r pc L (.int y :: .int x :: st) h cs ss Post := by
  intro p e s m args below meth c ls H locs F hl hR hS h1 h2
  have hts := F.2.2.2.2.2.1
  exact va_mmax F.1 F.2.1 (by rw [F.2.2.2.1]; exact hl.1.symm) F.2.2.2.2.1 (hts _ hw) (hts _ (wd_ok (k := 1070) (by decide +kernel))) (hts _ (wd_ok (k := 159) (by decide +kernel))) (hts _ (wd_ok (k := 1071) (by decide +kernel))) hdp (by show _ + 13 ≤ 64 * r.dp; omega) h1 h2 hd (kk p e s m args below meth c ls H locs F hl hR hS h1 h2)
theorem ev_mmin {idx : Nat} {x y : Int32} (hw : Cond.methodLink r.1.cls idx Lib.Math.min.name ∈ lw_good) (hd : decode r.2.1 pc = .ok (.invokestatic idx, 3)) (hdp : 1 ≤ r.dp) (hst : (st.map fun v => v.category).sum ≤ 8) (kk : Ev G r (pc + 3) L (.int (imin x y) :: st) h cs ss Post) : Ev G r pc L (.int y :: .int x :: st) h cs ss Post := by
  intro p e s m args below meth c ls H locs F hl hR hS h1 h2
  have hts := F.2.2.2.2.2.1
  exact va_mmin F.1 F.2.1 (by rw [F.2.2.2.1]; exact hl.1.symm) F.2.2.2.2.1 (hts _ hw) (hts _ (wd_ok (k := 1077) (by decide +kernel))) (hts _ (wd_ok (k := 159) (by decide +kernel))) (hts _ (wd_ok (k := 1078) (by decide +kernel))) hdp (by show _ + 13 ≤ 64 * r.dp; omega) h1 h2 hd (kk p e s m args below meth c ls H locs F hl hR hS h1 h2)
theorem sw_sound {ts : List Nat} {x : Int32} (hK : KOK G r tb Post K) (hd : decode r.2.1 pc = .ok (.tableswitch ((pcAt tb b : Int) - pc) v.toInt (v.toInt + ts.length - 1) (ts.map (fun t => (pcAt tb t : Int) - pc)).toArray, len)) (hlo : -1000 ≤ v.toInt) (hhi : v.toInt ≤ 1000) (hlen : ts.length ≤ 1000)
    (hs : swP (fun t => K t L st h cs ss) ts v x) (hdf : x < v ∨ v + Int32.ofNat ts.length ≤ x → K b L st h cs ss) : Ev G r pc L (.int x :: st) h cs ss Post := by
  have hvl : (v + Int32.ofNat ts.length).toInt = v.toInt + ts.length := by
    rw [Int32.toInt_add, show (Int32.ofNat ts.length).toInt = (ts.length : Int) from nI_toInt (by omega)]
    exact Int.bmod_eq_of_le (by omega) (by omega)
  by_cases h1 : x.toInt < v.toInt
  · exact ev_tabOut hd (Or.inl h1) (off_ok _ _) (hK.nx rfl (hdf (Or.inl (Int32.lt_iff_toInt_lt.mpr h1))))
  · by_cases h2 : v.toInt + ts.length - 1 < x.toInt
    · exact ev_tabOut hd (Or.inr h2) (off_ok _ _) (hK.nx rfl (hdf (Or.inr (Int32.le_iff_toInt_le.mpr (by rw [hvl]; omega)))))
    · have hk : (x.toInt - v.toInt).toNat < ts.length := by omega
      refine ev_tabIn hd h1 h2 (off := (pcAt tb (ts[(x.toInt - v.toInt).toNat]) : Int) - pc) ?_ (off_ok _ _) (hK.nx rfl (swP_get (K := fun t => K t L st h cs ss) ts v x (x.toInt - v.toInt).toNat _ hs (List.getElem?_eq_getElem hk) ?_))
      · simp [hk]
      · apply Int32.toInt_inj.mp
        rw [Int32.toInt_add, show (Int32.ofNat (x.toInt - v.toInt).toNat).toInt = ((x.toInt - v.toInt).toNat : Int) from nI_toInt (by omega)]
        rw [Int.bmod_eq_of_le (by omega) (by omega)]
        omega
end STP
set_option maxHeartbeats 4000000 in
theorem stepw_sound {G : Gx} {r : Mr} {cl : List (Mr × Nat × Nat)} {sw : List (List Nat)} {tb : List Ent} {L st : List Value} {h : Hp} {cs ss : Nat} {Post : Res → Hp → Prop} {K : Kt} {i pc len op a b c w : Nat} {ins : Instr} {v : Int32} (hT : ∀ q ∈ cl, cOK q.1 q.2.1 q.2.2 ∧ q.1.dp + 1 ≤ r.dp) (hl0 : G.1.stackTraces = false) (hK : KOK G r tb Post K)
    (hok : eok r.1.cls r.1.name r.2.1 r.ml r.rt (cl.map fun q => (q.1.1, q.2.1, q.2.2)) sw tb i pc ins len op a b c w v = true) (H : stepw G r cl sw K i op a b c v L st h cs ss Post) : Ev G r pc L st h cs ss Post := by
  unfold eok at hok
  rw [Bool.and_eq_true, decide_eq_true_eq] at hok
  obtain ⟨hd, hok⟩ := hok
  unfold stepw at H
  split at H
  · simp only [Bool.and_eq_true, Bool.or_eq_true, decide_eq_true_eq] at hok
    obtain ⟨hn, ho⟩ := hok
    split at H
    · rename_i x hx
      rcases ho with ⟨rfl, rfl⟩ | ho
      · exact ev_iload hd hx (hK.nx hn H)
      · obtain ⟨k, hk, ho⟩ := n4_ok ho
        simp only [decide_eq_true_eq] at ho
        obtain ⟨rfl, rfl⟩ := ho
        exact ev_iloadn hk hd hx (hK.nx hn H)
    · exact H.elim
  · simp only [Bool.and_eq_true, Bool.or_eq_true, decide_eq_true_eq] at hok
    obtain ⟨hn, ho⟩ := hok
    split at H
    · rename_i x hx
      rcases ho with ⟨rfl, rfl⟩ | ho
      · exact ev_aload hd hx (hK.nx hn H)
      · obtain ⟨k, hk, ho⟩ := n4_ok ho
        simp only [decide_eq_true_eq] at ho
        obtain ⟨rfl, rfl⟩ := ho
        exact ev_aloadn hk hd hx (hK.nx hn H)
    · exact H.elim
  · simp only [Bool.and_eq_true, Bool.or_eq_true, decide_eq_true_eq] at hok
    obtain ⟨⟨hn, hm⟩, ho⟩ := hok
    split at H
    · rcases ho with ⟨rfl, rfl⟩ | ho
      · exact ev_istore hd hm (hK.nx hn H)
      · obtain ⟨k, hk, ho⟩ := n4_ok ho
        simp only [decide_eq_true_eq] at ho
        obtain ⟨rfl, rfl⟩ := ho
        exact ev_istoren hk hd hm (hK.nx hn H)
    · exact H.elim
  · simp only [Bool.and_eq_true, Bool.or_eq_true, decide_eq_true_eq] at hok
    obtain ⟨⟨hn, hm⟩, ho⟩ := hok
    split at H
    · rcases ho with ⟨rfl, rfl⟩ | ho
      · exact ev_astore hd hm (hK.nx hn H)
      · obtain ⟨k, hk, ho⟩ := n4_ok ho
        simp only [decide_eq_true_eq] at ho
        obtain ⟨rfl, rfl⟩ := ho
        exact ev_astoren hk hd hm (hK.nx hn H)
    · exact H.elim
  · simp only [Bool.and_eq_true, Bool.or_eq_true, decide_eq_true_eq] at hok
    obtain ⟨hn, ho⟩ := hok
    rcases ho with (((⟨rfl, rfl, hv⟩ | ⟨rfl, rfl, hv⟩) | ⟨rfl, rfl, hv⟩) | ⟨⟨rfl, rfl⟩, hw⟩) | ⟨⟨rfl, rfl⟩, hw⟩
    · exact ev_iconst hd hv (hK.nx hn H)
    · exact ev_bipush hd hv (hK.nx hn H)
    · exact ev_sipush hd hv (hK.nx hn H)
    · exact ev_ldc (wd_ok hw) hd (hK.nx hn H)
    · exact ev_ldcw (wd_ok hw) hd (hK.nx hn H)
  · simp only [Bool.and_eq_true, Bool.or_eq_true, decide_eq_true_eq] at hok
    obtain ⟨⟨hn, hm⟩, rfl, rfl, hv⟩ := hok
    split at H
    · rename_i x hx
      exact ev_iinc hd hv hx hm (hK.nx hn H)
    · exact H.elim
  · simp only [Bool.and_eq_true, Bool.or_eq_true, decide_eq_true_eq] at hok
    obtain ⟨hn, rfl, rfl⟩ := hok
    split at H
    · unfold binI at hd
      unfold bop at H
      split at hd
      · exact ev_iadd hd (hK.nx hn H)
      · exact ev_isub hd (hK.nx hn H)
      · exact ev_imul hd (hK.nx hn H)
      · exact ev_iand hd (hK.nx hn H)
      · exact ev_ior hd (hK.nx hn H)
      · exact ev_ixor hd (hK.nx hn H)
      · exact ev_ishl hd (hK.nx hn H)
      · exact ev_ishr hd (hK.nx hn H)
      · rename_i x1 x2 x3 x4 x5 x6 x7 x8
        split at H <;> first | exact ev_iushr hd (hK.nx hn H) | (exfalso; first | exact x1 rfl | exact x2 rfl | exact x3 rfl | exact x4 rfl | exact x5 rfl | exact x6 rfl | exact x7 rfl | exact x8 rfl)
    · exact H.elim
  · simp only [Bool.and_eq_true, Bool.or_eq_true, decide_eq_true_eq] at hok
    obtain ⟨hn, rfl, rfl⟩ := hok
    split at H
    · exact ev_idiv hd H.1 (hK.nx hn H.2)
    · exact H.elim
  · simp only [Bool.and_eq_true, Bool.or_eq_true, decide_eq_true_eq] at hok
    obtain ⟨hn, rfl, rfl⟩ := hok
    split at H
    · exact ev_irem hd H.1 (hK.nx hn H.2)
    · exact H.elim
  · simp only [Bool.and_eq_true, Bool.or_eq_true, decide_eq_true_eq] at hok
    obtain ⟨hn, rfl, rfl⟩ := hok
    split at H
    · unfold unI at hd
      unfold uop at H
      split at hd
      · exact ev_ineg hd (hK.nx hn H)
      · exact ev_i2b hd (hK.nx hn H)
      · rename_i x1 x2
        split at H <;> first | exact ev_i2c hd (hK.nx hn H) | (exfalso; first | exact x1 rfl | exact x2 rfl)
    · exact H.elim
  · simp only [Bool.and_eq_true, Bool.or_eq_true, decide_eq_true_eq] at hok
    obtain ⟨hn, rfl, rfl⟩ := hok
    split at H
    · exact ev_i2l hd (hK.nx hn H)
    · exact H.elim
  · simp only [Bool.and_eq_true, Bool.or_eq_true, decide_eq_true_eq] at hok
    obtain ⟨hn, rfl, rfl⟩ := hok
    split at H
    · exact ev_lcmp hd (hK.nx hn H)
    · exact H.elim
  · simp only [Bool.and_eq_true, Bool.or_eq_true, decide_eq_true_eq] at hok
    obtain ⟨hn, ho⟩ := hok
    rcases ho with ⟨rfl, rfl, rfl⟩ | ⟨rfl, rfl, rfl⟩
    · exact ev_lconst hd rfl (hK.nx hn H)
    · exact ev_lconst hd rfl (hK.nx hn H)
  · simp only [Bool.and_eq_true, Bool.or_eq_true, decide_eq_true_eq] at hok
    obtain ⟨hn, rfl, rfl⟩ := hok
    split at H
    · exact ev_dup hd rfl (hK.nx hn H)
    · exact ev_dup hd rfl (hK.nx hn H)
    · exact H.elim
  · simp only [Bool.and_eq_true, Bool.or_eq_true, decide_eq_true_eq] at hok
    obtain ⟨hn, rfl, rfl⟩ := hok
    split at H
    · exact ev_dup2 hd rfl rfl (hK.nx hn H)
    · exact H.elim
  · simp only [Bool.and_eq_true, Bool.or_eq_true, decide_eq_true_eq] at hok
    obtain ⟨hn, rfl, rfl⟩ := hok
    split at H
    · exact ev_pop hd rfl (hK.nx hn H)
    · exact H.elim
  · simp only [Bool.and_eq_true, Bool.or_eq_true, decide_eq_true_eq] at hok
    obtain ⟨hn, rfl, rfl⟩ := hok
    split at H
    · unfold br1 at H
      unfold cndI at hd
      split at hd
      · exact ev_if_eq hd (off_ok _ _) (fun z => hK.nx rfl (H.1 z)) (fun z => hK.nx hn (H.2 z))
      · exact ev_if_ne hd (off_ok _ _) (fun z => hK.nx rfl (H.1 z)) (fun z => hK.nx hn (H.2 z))
      · exact ev_if_lt hd (off_ok _ _) (fun z => hK.nx rfl (H.1 z)) (fun z => hK.nx hn (H.2 z))
      · exact ev_if_ge hd (off_ok _ _) (fun z => hK.nx rfl (H.1 z)) (fun z => hK.nx hn (H.2 z))
      · exact ev_if_gt hd (off_ok _ _) (fun z => hK.nx rfl (H.1 z)) (fun z => hK.nx hn (H.2 z))
      · rename_i x1 x2 x3 x4 x5
        split at H <;> first | exact ev_if_le hd (off_ok _ _) (fun z => hK.nx rfl (H.1 z)) (fun z => hK.nx hn (H.2 z)) | (exfalso; first | exact x1 rfl | exact x2 rfl | exact x3 rfl | exact x4 rfl | exact x5 rfl)
    · exact H.elim
  · simp only [Bool.and_eq_true, Bool.or_eq_true, decide_eq_true_eq] at hok
    obtain ⟨hn, rfl, rfl⟩ := hok
    split at H
    · unfold br2 at H
      unfold cndI at hd
      split at hd
      · exact ev_icmp_eq hd (off_ok _ _) (fun z => hK.nx rfl (H.1 z)) (fun z => hK.nx hn (H.2 z))
      · exact ev_icmp_ne hd (off_ok _ _) (fun z => hK.nx rfl (H.1 z)) (fun z => hK.nx hn (H.2 z))
      · exact ev_icmp_lt hd (off_ok _ _) (fun z => hK.nx rfl (H.1 z)) (fun z => hK.nx hn (H.2 z))
      · exact ev_icmp_ge hd (off_ok _ _) (fun z => hK.nx rfl (H.1 z)) (fun z => hK.nx hn (H.2 z))
      · exact ev_icmp_gt hd (off_ok _ _) (fun z => hK.nx rfl (H.1 z)) (fun z => hK.nx hn (H.2 z))
      · rename_i x1 x2 x3 x4 x5
        split at H <;> first | exact ev_icmp_le hd (off_ok _ _) (fun z => hK.nx rfl (H.1 z)) (fun z => hK.nx hn (H.2 z)) | (exfalso; first | exact x1 rfl | exact x2 rfl | exact x3 rfl | exact x4 rfl | exact x5 rfl)
    · exact H.elim
  · simp only [Bool.and_eq_true, Bool.or_eq_true, decide_eq_true_eq] at hok
    obtain ⟨hn, ho⟩ := hok
    split at H
    · rcases ho with ⟨rfl, rfl, rfl⟩ | ⟨rfl, rfl, rfl⟩
      · exact ev_acmp_eq hd (off_ok _ _) (fun z => hK.nx rfl (H.1 z)) (fun z => hK.nx hn (H.2 z))
      · exact ev_acmp_ne hd (off_ok _ _) (fun z => hK.nx rfl (H.1 z)) (fun z => hK.nx hn (H.2 z))
    · exact H.elim
  · simp only [Bool.and_eq_true, Bool.or_eq_true, decide_eq_true_eq] at hok
    obtain ⟨rfl, rfl⟩ := hok
    exact ev_goto hd (off_ok _ _) (hK.nx rfl H)
  · split at H
    · rename_i _ _ x st ts hts
      rw [hts] at hok
      simp only [Bool.and_eq_true, decide_eq_true_eq] at hok
      obtain ⟨⟨⟨rfl, hlo⟩, hhi⟩, hlen⟩ := hok
      obtain ⟨hs, hdf⟩ := H
      exact sw_sound hK hd hlo hhi hlen hs hdf
    · exact H.elim
  · simp only [Bool.and_eq_true, decide_eq_true_eq] at hok
    obtain ⟨⟨hn, rfl⟩, ho⟩ := hok
    split at H
    · obtain ⟨x, hx, H⟩ := H
      split at ho
      · rename_i _ _ q hq
        simp only [Bool.and_eq_true, decide_eq_true_eq] at ho
        exact ev_getf (C := q.1) (T := q.2.1) (N := q.2.2) hq ho.1 (wd_ok ho.2) hd hx.1 hx.2 (hK.nx hn H)
      · cases ho
    · exact H.elim
  · simp only [Bool.and_eq_true, decide_eq_true_eq] at hok
    obtain ⟨⟨hn, rfl⟩, ho⟩ := hok
    split at H
    · obtain ⟨x, hx, H⟩ := H
      split at ho
      · rename_i _ _ q hq
        simp only [Bool.and_eq_true, decide_eq_true_eq] at ho
        exact ev_getf (C := q.1) (T := q.2.1) (N := q.2.2) hq ho.1 (wd_ok ho.2) hd hx.1 hx.2 (hK.nx hn H)
      · cases ho
    · exact H.elim
  · simp only [Bool.and_eq_true, decide_eq_true_eq] at hok
    obtain ⟨⟨hn, rfl⟩, ho⟩ := hok
    split at ho
    · rename_i _ _ q hq
      simp only [Bool.and_eq_true, Bool.or_eq_true, Bool.not_eq_true', decide_eq_true_eq] at ho
      obtain ⟨⟨⟨hb, hw⟩, hfin⟩, hty⟩ := ho
      have put : ∀ {vv : Value} {p : Nat} {ty : FieldType} {s2 : List Value}, parseFieldDescriptor (q.2.1 b).2.2.1 = some ty → narrow ty vv = vv → fits ty vv = true → fW G h (a + 1) p → Ev G r (pc + 3) L s2 (hset h p b vv) cs ss Post → Ev G r pc L (vv :: .ref p :: s2) h cs ss Post := by
        intro vv p ty s2 e1 e2 e3 e4 k
        rcases hfin with hfin | ⟨f1, f2⟩
        · exact ev_putf (C := q.1) (T := q.2.1) (N := q.2.2) hq hb (wd_ok hw) hfin e1 e2 e3 hd e4.1 e4.2 k
        · by_cases hfn : (q.2.1 b).2.2.2 = true
          · exact ev_putF (C := q.1) (T := q.2.1) (N := q.2.2) hq hb (wd_ok hw) hfn f1 f2 e1 e2 e3 hd e4.1 e4.2 k
          · exact ev_putf (C := q.1) (T := q.2.1) (N := q.2.2) hq hb (wd_ok hw) (by simpa using hfn) e1 e2 e3 hd e4.1 e4.2 k
      split at H
      · exact put (of_decide_eq_true hty) rfl rfl H.1 (hK.nx hn H.2)
      · obtain ⟨hx, H⟩ := bret_in H
        exact put (of_decide_eq_true hty) (narrow_b hx).1 (narrow_b hx).2 H.1 (hK.nx hn H.2)
      · rw [if_neg (by decide), if_neg (by decide)] at hty
        obtain ⟨ty, he, hr⟩ := refT_ok hty
        rcases hr with ⟨n9, rfl⟩ | ⟨n9, rfl⟩
        · exact put he rfl rfl H.1 (hK.nx hn H.2)
        · exact put he rfl rfl H.1 (hK.nx hn H.2)
      · exact H.elim
    · cases ho
  · simp only [Bool.and_eq_true, Bool.or_eq_true, decide_eq_true_eq] at hok
    obtain ⟨⟨hn, rfl⟩, ho⟩ := hok
    split at H
    · obtain ⟨x, ⟨n, g1, g2, g3⟩, H⟩ := H
      rcases ho with (⟨rfl, rfl⟩ | ⟨rfl, rfl⟩) | ⟨rfl, rfl⟩
      · exact ev_iald g1 g2 g3 hd (hK.nx hn H)
      · exact ev_zald g1 g2 g3 hd (hK.nx hn H)
      · exact ev_bald g1 g2 g3 hd (hK.nx hn H)
    · exact H.elim
  · simp only [Bool.and_eq_true, Bool.or_eq_true, decide_eq_true_eq] at hok
    obtain ⟨⟨hn, rfl⟩, ha, rfl⟩ := hok
    split at H
    · obtain ⟨x, ⟨n, g1, g2, g3⟩, H⟩ := H
      exact ev_aald (j := a - 101) (by omega) (by rw [show 101 + (a - 101) = a by omega]; exact g1) g2 g3 hd (hK.nx hn H)
    · exact H.elim
  · simp only [Bool.and_eq_true, Bool.or_eq_true, decide_eq_true_eq] at hok
    obtain ⟨hn, rfl, rfl⟩ := hok
    split at H
    · obtain ⟨x, ⟨n, g1, g2, g3⟩, H⟩ := H
      exact ev_lald g1 g2 g3 hd (hK.nx hn H)
    · exact H.elim
  · simp only [Bool.and_eq_true, Bool.or_eq_true, decide_eq_true_eq] at hok
    obtain ⟨hn, rfl, rfl⟩ := hok
    split at H
    · obtain ⟨⟨g0, n, g1, g2⟩, H⟩ := H
      exact ev_iast g0 g1 g2 hd (hK.nx hn H)
    · exact H.elim
  · simp only [Bool.and_eq_true, Bool.or_eq_true, decide_eq_true_eq] at hok
    obtain ⟨hn, rfl, rfl⟩ := hok
    split at H
    · obtain ⟨hx, ⟨g0, n, g1, g2⟩, H⟩ := bret_in H
      exact ev_zast (narrow_b hx).1 g0 g1 g2 hd (hK.nx hn H)
    · exact H.elim
  · simp only [Bool.and_eq_true, Bool.or_eq_true, decide_eq_true_eq] at hok
    obtain ⟨hn, rfl, rfl⟩ := hok
    split at H
    · obtain ⟨hx, ⟨g0, n, g1, g2⟩, H⟩ := H
      exact ev_bast hx g0 g1 g2 hd (hK.nx hn H)
    · exact H.elim
  · simp only [Bool.and_eq_true, Bool.or_eq_true, decide_eq_true_eq] at hok
    obtain ⟨hn, rfl, rfl⟩ := hok
    split at H
    · obtain ⟨⟨g0, n, g1, g2⟩, H⟩ := H
      exact ev_last g0 g1 g2 hd (hK.nx hn H)
    · exact H.elim
  · simp only [Bool.and_eq_true, Bool.or_eq_true, decide_eq_true_eq] at hok
    obtain ⟨⟨hn, rfl, rfl⟩, ho⟩ := hok
    split at H
    · obtain ⟨hx, ⟨g0, n, g1, g2⟩, H⟩ := H
      rcases ho with ⟨rfl, rfl⟩ | ⟨rfl, rfl⟩
      · exact ev_aast (j := 4) (C := "GripEstates$Token") (by omega) rfl g0 g1 g2 (Or.inr ⟨0, rfl, hx⟩) hd (hK.nx hn H) (fun s args hg hts => by
          obtain ⟨cC, kC, z1, z2, z3, -⟩ := Cond.instantiable_spec (hts (Cond.instantiable "GripEstates$Token" 5) (wd_ok (k := 672) (by decide +kernel)))
          exact ⟨cC, z1, kC, z2, z3⟩)
      · exact ev_aast (j := 5) (C := "GripEstates$Valley") (by omega) rfl g0 g1 g2 (Or.inl ⟨7, 19, TX9, rfl, hx⟩) hd (hK.nx hn H) (fun s args hg hts => ⟨_, (hg.2.1 7 _ rfl).2⟩)
    · exact H.elim
  · simp only [Bool.and_eq_true, Bool.or_eq_true, decide_eq_true_eq] at hok
    obtain ⟨⟨hn, rfl, rfl⟩, ha⟩ := hok
    split at H
    · obtain ⟨n, g1, H⟩ := H
      exact ev_alen (j := a - 101) (n := n) (by rw [show 101 + (a - 101) = a by omega]; exact g1) rfl hd (hK.nx hn H)
    · exact H.elim
  · simp only [Bool.and_eq_true, decide_eq_true_eq] at hok
    obtain ⟨⟨hn, rfl⟩, ho⟩ := hok
    split at ho
    · rename_i _ _ q hq
      simp only [Bool.and_eq_true] at ho
      have hN : clsN a = q.2.2 := by simp only [clsN, hq]
      rw [hN] at H
      exact ev_new (C := q.1) (T := q.2.1) (N := q.2.2) hq (wd_ok ho.1.1) (wd_ok ho.1.2) (wd_ok ho.2) (dflt_ok hq) hd H.1.1 H.1.2 (hK.nx hn H.2)
    · cases ho
  · simp only [Bool.and_eq_true, Bool.or_eq_true, decide_eq_true_eq] at hok
    obtain ⟨⟨hn, rfl, rfl, ha⟩, hw⟩ := hok
    split at H
    · obtain ⟨⟨g1, g2⟩, ⟨g3, g4⟩, H⟩ := H
      have hle := clamp_le (m := 65536) (by decide) g2
      have hcb := aty_bytes ha
      exact ev_newa (by rw [arrT_ok ha]; exact wd_ok hw) (arrT_ok ha) ha rfl g1 rfl (Nat.le_trans (Nat.mul_le_mul hle hcb) (by decide)) hd g3 g4 (hK.nx hn H)
    · exact H.elim
  · simp only [Bool.and_eq_true, decide_eq_true_eq] at hok
    obtain ⟨⟨hn, rfl⟩, ho⟩ := hok
    split at H
    · obtain ⟨⟨g1, g2⟩, ⟨g3, g4⟩, H⟩ := H
      have hle := clamp_le (m := 65536) (by decide) g2
      split at ho
      · simp only [Bool.and_eq_true, Bool.or_eq_true, decide_eq_true_eq] at ho
        rcases ho with ⟨rfl, hw⟩ | ⟨rfl, hw⟩
        · exact ev_newr (wd_ok hw) (by decide) rfl g1 rfl (Nat.le_trans (Nat.mul_le_mul hle (Nat.le_refl 4)) (by decide)) hd g3 g4 (hK.nx hn H)
        · exact ev_newr (wd_ok hw) (by decide) rfl g1 rfl (Nat.le_trans (Nat.mul_le_mul hle (Nat.le_refl 4)) (by decide)) hd g3 g4 (hK.nx hn H)
      · cases ho
    · exact H.elim
  · simp only [Bool.and_eq_true, decide_eq_true_eq] at hok
    obtain ⟨⟨hn, rfl⟩, ho⟩ := hok
    split at ho
    · rename_i _ _ q hq
      refine ev_gets hq (wd_ok ho) hd ?_
      split at H
      · obtain ⟨x, hx, H⟩ := H
        rw [hx]
        exact hK.nx hn H
      · obtain ⟨x, hx, H⟩ := H
        rw [hx]
        exact hK.nx hn H
      · exact hK.nx hn H
    · cases ho
  · simp only [Bool.and_eq_true, decide_eq_true_eq] at hok
    obtain ⟨⟨hn, rfl⟩, ho⟩ := hok
    split at ho
    · rename_i _ _ q hq
      split at H
      · split at H
        · obtain ⟨x, hx, H⟩ := H
          refine ev_geto hq (by rw [hx]; exact un_ref x) (wd_ok ho) hd ?_
          rw [hx]
          exact hK.nx hn H
        · obtain ⟨x, hx, H⟩ := H
          refine ev_geto hq (by rw [hx]; exact un_int x) (wd_ok ho) hd ?_
          rw [hx]
          exact hK.nx hn H
      · exact H.elim
    · cases ho
  · simp only [Bool.and_eq_true, decide_eq_true_eq] at hok
    obtain ⟨⟨hn, rfl⟩, ho⟩ := hok
    split at ho
    · rename_i _ _ q hq
      simp only [decide_eq_true_eq] at ho
      obtain ⟨q1, q2, q3⟩ := q
      obtain ⟨rfl, rfl⟩ := ho
      exact ev_ldcS (tx := q3) hq hd (hK.nx hn H)
    · cases ho
  · simp only [Bool.and_eq_true, decide_eq_true_eq] at hok
    obtain ⟨⟨hn, rfl⟩, ho⟩ := hok
    split at H
    · rename_i q n f hcl
      split at ho
      · rename_i q' hq'
        have := cl_map hcl hq'
        subst this
        have hT' := hT _ (List.mem_of_getElem? hcl)
        split at ho
        · simp only [Bool.and_eq_true, decide_eq_true_eq] at ho
          obtain ⟨g1, g2, H⟩ := gs_in H
          obtain ⟨⟨z1, z2⟩, x, hx, H⟩ := gz_in H
          exact st_S hT' ho.2 g1 g2 (wd_ok ho.1) hd hx (fun h1 h2 => ⟨by rw [z1, z2]; exact ⟨h1, h2⟩, fun v h' hp => by
            obtain ⟨e1, rfl⟩ := hp
            cases e1
            rw [z1, z2]
            exact hK.nx hn H, fun E h' hp => by cases hp.1⟩)
        · simp only [Bool.and_eq_true, decide_eq_true_eq] at ho
          split at H
          · contradiction
          · split at H
            · rename_i p s2 hdr
              obtain ⟨g2, H⟩ := gd_in H
              obtain ⟨⟨z1, z2⟩, hrk, x, hx, H⟩ := gz_in H
              exact st_V hT' ho.2 hdr g2 (wd_ok ho.1.1) ho.1.2 hrk hd hx (fun h1 h2 => ⟨by rw [z1, z2]; exact ⟨h1, h2⟩, fun v h' hp => by
                obtain ⟨e1, rfl⟩ := hp
                cases e1
                rw [z1, z2]
                exact hK.nx hn H, fun E h' hp => by cases hp.1⟩)
            · exact H.elim
        · cases ho
      · cases ho
    · exact H.elim
  · simp only [Bool.and_eq_true, decide_eq_true_eq] at hok
    obtain ⟨⟨hn, rfl⟩, ho⟩ := hok
    split at H
    · rename_i q n f hcl
      split at ho
      · rename_i q' hq'
        have := cl_map hcl hq'
        subst this
        have hT' := hT _ (List.mem_of_getElem? hcl)
        split at ho
        · simp only [Bool.and_eq_true, decide_eq_true_eq] at ho
          obtain ⟨g1, g2, P1, hM, H⟩ := gs_in H
          exact st_S hT' ho.2 g1 g2 (wd_ok ho.1) hd hM (kcall_v hK hn H)
        · simp only [Bool.and_eq_true, decide_eq_true_eq] at ho
          split at H
          · contradiction
          · split at H
            · rename_i p s2 hdr
              obtain ⟨g2, hrk, P1, hM, H⟩ := gd_in H
              exact st_V hT' ho.2 hdr g2 (wd_ok ho.1.1) ho.1.2 hrk hd hM (kcall_v hK hn H)
            · exact H.elim
        · cases ho
      · cases ho
    · exact H.elim
  · simp only [Bool.and_eq_true, decide_eq_true_eq] at hok
    obtain ⟨⟨hn, rfl⟩, ho⟩ := hok
    split at H
    · rename_i q n f hcl
      split at ho
      · rename_i q' hq'
        have := cl_map hcl hq'
        subst this
        have hT' := hT _ (List.mem_of_getElem? hcl)
        split at ho
        · simp only [Bool.and_eq_true, decide_eq_true_eq] at ho
          obtain ⟨g1, g2, P1, hM, H⟩ := gs_in H
          exact st_S hT' ho.2 g1 g2 (wd_ok ho.1) hd hM (kcall_i hK hn H)
        · simp only [Bool.and_eq_true, decide_eq_true_eq] at ho
          split at H
          · contradiction
          · split at H
            · rename_i p s2 hdr
              obtain ⟨g2, hrk, P1, hM, H⟩ := gd_in H
              exact st_V hT' ho.2 hdr g2 (wd_ok ho.1.1) ho.1.2 hrk hd hM (kcall_i hK hn H)
            · exact H.elim
        · cases ho
      · cases ho
    · exact H.elim
  · simp only [Bool.and_eq_true, decide_eq_true_eq] at hok
    obtain ⟨⟨hn, rfl⟩, ho⟩ := hok
    split at H
    · rename_i q n f hcl
      split at ho
      · rename_i q' hq'
        have := cl_map hcl hq'
        subst this
        have hT' := hT _ (List.mem_of_getElem? hcl)
        split at ho
        · simp only [Bool.and_eq_true, decide_eq_true_eq] at ho
          obtain ⟨g1, g2, P1, hM, H⟩ := gs_in H
          exact st_S hT' ho.2 g1 g2 (wd_ok ho.1) hd hM (kcall_r hK hn H)
        · simp only [Bool.and_eq_true, decide_eq_true_eq] at ho
          split at H
          · contradiction
          · split at H
            · rename_i p s2 hdr
              obtain ⟨g2, hrk, P1, hM, H⟩ := gd_in H
              exact st_V hT' ho.2 hdr g2 (wd_ok ho.1.1) ho.1.2 hrk hd hM (kcall_r hK hn H)
            · exact H.elim
        · cases ho
      · cases ho
    · exact H.elim
  · simp only [Bool.and_eq_true, decide_eq_true_eq] at hok
    obtain ⟨⟨hn, rfl⟩, ho⟩ := hok
    split at H
    · rename_i q n f hcl
      split at ho
      · rename_i _ _ q' hq'
        have := cl_map hcl hq'
        subst this
        have hT' := hT _ (List.mem_of_getElem? hcl)
        simp only [Bool.and_eq_true, Bool.or_eq_true, decide_eq_true_eq] at ho
        split at H
        · rename_i p s2 hdr
          obtain ⟨g2, P1, hM, H⟩ := gd_in H
          exact st_I hT' ho.2 hdr g2 (ho.1.elim (fun z => Or.inl (wd_ok z)) Or.inr) hd hM (bud_no H) (kcall_c hK hn H)
        · exact H.elim
      · cases ho
    · exact H.elim
  · simp only [Bool.and_eq_true, decide_eq_true_eq] at hok
    obtain ⟨⟨hn, rfl⟩, ho⟩ := hok
    split at H
    · split at ho
      · obtain ⟨g1, H⟩ := gd_in H
        obtain ⟨g2, H⟩ := gp_in H
        exact ev_objInit (wd_ok ho) (wd_ok (k := 169) (by decide +kernel)) (wd_ok (k := 170) (by decide +kernel)) hd g2 g1 (hK.nx hn H)
      · cases ho
    · exact H.elim
  · simp only [Bool.and_eq_true, decide_eq_true_eq] at hok
    obtain ⟨⟨rfl, rfl⟩, ho⟩ := hok
    split at H
    · split at H
      · exact ev_iret (of_decide_eq_true ho) rfl hd H
      · obtain ⟨hx, H⟩ := bret_in H
        exact ev_iret (of_decide_eq_true ho) (narrow_b hx).1 hd H
      · exact ev_iret (of_decide_eq_true ho) H.1 hd H.2
      · rename_i z0 z1 z2
        split at ho
        · exact absurd rfl z0
        · exact absurd rfl z1
        · exact absurd rfl z2
        · exact ev_iret (of_decide_eq_true ho) H.1 hd H.2
    · exact H.elim
  · simp only [Bool.and_eq_true, decide_eq_true_eq] at hok
    obtain ⟨⟨rfl, rfl⟩, ho⟩ := hok
    split at H
    · split at ho
      · rename_i nm' hrt
        exact ev_aret hrt hd H
      · cases ho
    · exact H.elim
  · simp only [decide_eq_true_eq] at hok
    obtain ⟨rfl, rfl, hrt⟩ := hok
    split at H
    · exact ev_vret hrt hd H
    · exact H.elim
  · simp only [Bool.and_eq_true, decide_eq_true_eq] at hok
    obtain ⟨⟨rfl, d3, d4, d7⟩, ho⟩ := hok
    split at ho
    · obtain ⟨g1, H⟩ := gd_in H
      obtain ⟨g2, H⟩ := gp_in H
      split at H
      · rename_i hb
        exact ev_throw hl0 ho hd d3 d4 d7 g2 g1 hb.1 hb.2 H
      · exact H.elim
    · cases ho
  · simp only [Bool.and_eq_true, decide_eq_true_eq] at hok
    obtain ⟨⟨hn, rfl⟩, ho⟩ := hok
    split at H
    · split at ho
      · obtain ⟨g1, H⟩ := gd_in H
        obtain ⟨g2, H⟩ := gp_in H
        obtain ⟨⟨rfl, rfl⟩, ⟨n0, n1, ⟨e0, e1⟩, e2, e3, e4⟩, e5, e6, H⟩ := H
        exact ev_copy (wd_ok ho) (wd_ok (k := 593) (by decide +kernel)) (wd_ok (k := 592) (by decide +kernel)) (wd_ok (k := 145) (by decide +kernel)) e5 e0 e1 e2 e3 e4 e6 g2 g1 hd (hK.nx hn H)
      · cases ho
    · exact H.elim
  · simp only [Bool.and_eq_true, decide_eq_true_eq] at hok
    obtain ⟨⟨hn, rfl⟩, ho⟩ := hok
    split at H
    · split at ho
      · obtain ⟨g1, H⟩ := gd_in H
        obtain ⟨g2, H⟩ := gp_in H
        obtain ⟨n, e1, e2, e3, ⟨e4, e5⟩, H⟩ := H
        exact ev_clone (wd_ok ho) (wd_ok (k := 1007) (by decide +kernel)) (wd_ok (k := 1008) (by decide +kernel)) (wd_ok (k := 1009) (by decide +kernel)) (wd_ok (k := 1010) (by decide +kernel)) e2 e1 e3 g2 g1 e4 e5 hd (hK.nx hn H)
      · cases ho
    · exact H.elim
  · simp only [Bool.and_eq_true, decide_eq_true_eq] at hok
    obtain ⟨⟨hn, rfl⟩, ho⟩ := hok
    split at H
    · split at ho
      · obtain ⟨⟨n, e1, e2⟩, H⟩ := H
        exact ev_castI (wd_ok ho) e2 e1 hd (hK.nx hn H)
      · cases ho
    · exact H.elim
  · simp only [Bool.and_eq_true, decide_eq_true_eq] at hok
    obtain ⟨⟨hn, rfl⟩, ho⟩ := hok
    split at H
    · split at ho
      · obtain ⟨g1, H⟩ := gd_in H
        obtain ⟨g2, H⟩ := gp_in H
        exact ev_mmax (wd_ok ho) hd g2 g1 (hK.nx hn H)
      · cases ho
    · exact H.elim
  · simp only [Bool.and_eq_true, decide_eq_true_eq] at hok
    obtain ⟨⟨hn, rfl⟩, ho⟩ := hok
    split at H
    · split at ho
      · obtain ⟨g1, H⟩ := gd_in H
        obtain ⟨g2, H⟩ := gp_in H
        exact ev_mmin (wd_ok ho) hd g2 g1 (hK.nx hn H)
      · cases ho
    · exact H.elim
  · exact H.elim
end
section
/-! ===== a piece of a method, from a place on to its cuts ===== -/
def ctOf (ct : List (Nat × List Nat)) (i : Nat) : Option (List Nat) := match ct with
  | [] => none
  | (j, ds) :: ct => if i = j then some ds else ctOf ct i
def wpK (G : Gx) (r : Mr) (cl : List (Mr × Nat × Nat)) (sw : List (List Nat)) (tb : List Ent) (ct : List (Nat × List Nat)) (Post : Res → Hp → Prop) : Nat → Kt
  | 0 => fun _ _ _ _ _ _ => False
  | n + 1 => fun i L st h cs ss => match tb[i]? with
    | some (pc, _, _, op, a, b, c, _, v) => (match ctOf ct i with
      | some ds => Ev G r pc (ds.foldl (fun L d => L.set d un) L) st h cs ss Post
      | none => stepw G r cl sw (wpK G r cl sw tb ct Post n) i op a b c v L st h cs ss Post)
    | none => False
def wp (G : Gx) (r : Mr) (cl : List (Mr × Nat × Nat)) (sw : List (List Nat)) (tb : List Ent) (ct : List (Nat × List Nat)) (Post : Res → Hp → Prop) (n i : Nat) (L st : List Value) (h : Hp) (cs ss : Nat) : Prop := match tb[i]? with
  | some (_, _, _, op, a, b, c, _, v) => stepw G r cl sw (wpK G r cl sw tb ct Post n) i op a b c v L st h cs ss Post
  | none => False
section WPS
variable {G : Gx} {r : Mr} {cl : List (Mr × Nat × Nat)} {sw : List (List Nat)} {tb : List Ent} {ct : List (Nat × List Nat)} {Post : Res → Hp → Prop}
theorem wpK_ok (hl0 : G.1.stackTraces = false) (hT : TOK r cl sw tb) : ∀ n, KOK G r tb Post (wpK G r cl sw tb ct Post n) := by
  intro n
  induction n with
  | zero => exact fun _ _ _ _ _ _ H => H.elim
  | succ n ih =>
    intro j L st h cs ss H
    unfold wpK at H
    split at H
    · rename_i pc ins len op a b c w v he
      refine ⟨_, he, ?_⟩
      split at H
      · exact Ev.kills _ L H
      · have hok : eok r.1.cls r.1.name r.2.1 r.ml r.rt (cl.map fun q => (q.1.1, q.2.1, q.2.2)) sw tb j pc ins len op a b c w v = true := hT.1 j (pc, ins, len, op, a, b, c, w, v) he
        exact stepw_sound hT.2 hl0 ih hok H
    · exact H.elim
theorem wp_sound (hl0 : G.1.stackTraces = false) (hT : TOK r cl sw tb) {n i pc : Nat} {L st : List Value} {h : Hp} {cs ss : Nat} (hp : pcAt tb i = pc) (H : wp G r cl sw tb ct Post n i L st h cs ss) : Ev G r pc L st h cs ss Post := by
  unfold wp at H
  split at H
  · rename_i pc' ins len op a b c w v he
    have : pc = pc' := by rw [← hp, pcAt, he]
    subst this
    have hok : eok r.1.cls r.1.name r.2.1 r.ml r.rt (cl.map fun q => (q.1.1, q.2.1, q.2.2)) sw tb i pc ins len op a b c w v = true := hT.1 i (pc, ins, len, op, a, b, c, w, v) he
    exact stepw_sound hT.2 hl0 (wpK_ok hl0 hT n) hok H
  · exact H.elim
end WPS
end
section
def m_Ta_init : Mr := (⟨"GripEstates$Tape", "<init>", "()V"⟩, prog_8_method_1_code, 1, none, 1, 400, 1)
def m_Td_init : Mr := (⟨"GripEstates$Told", "<init>", "()V"⟩, prog_10_method_1_code, 1, none, 1, 100, 1)
def m_Ma_init : Mr := (⟨"GripEstates$Matches", "<init>", "()V"⟩, prog_6_method_1_code, 1, none, 5, 159, 1)
def m_Re_init : Mr := (⟨"GripEstates$Reader", "<init>", "()V"⟩, prog_7_method_1_code, 1, none, 3, 1203, 1)
def m_Vr_init : Mr := (⟨"GripEstates$ValleyReader", "<init>", "(LGripEstates$Reader;)V"⟩, prog_12_method_1_code, 2, none, 0, 0, 1)
def m_Lr_init : Mr := (⟨"GripEstates$LawReader", "<init>", "(LGripEstates$Reader;)V"⟩, prog_4_method_1_code, 2, none, 4, 836, 1)
def m_La_init : Mr := (⟨"GripEstates$Law", "<init>", "()V"⟩, prog_3_method_1_code, 1, none, 4, 0, 1)
def m_Lo_init : Mr := (⟨"GripEstates$Log", "<init>", "()V"⟩, prog_5_method_1_code, 1, none, 1, 300, 1)
def m_Va_init : Mr := (⟨"GripEstates$Valley", "<init>", "(LGripEstates$Law;)V"⟩, prog_11_method_1_code, 2, none, 10, 374, 2)
def m_Gr_init : Mr := (⟨"GripEstates", "<init>", "()V"⟩, prog_1_method_1_code, 4, none, 200, 9000, 3)
def m_Ta_hasRoom : Mr := (⟨"GripEstates$Tape", "hasRoom", "()Z"⟩, prog_8_method_2_code, 1, (some FieldType.boolean), 0, 0, 0)
def m_Ta_add : Mr := (⟨"GripEstates$Tape", "add", "(I)V"⟩, prog_8_method_3_code, 3, none, 0, 0, 0)
def m_Gr_feed : Mr := (⟨"GripEstates", "feed", "(IIIII)I"⟩, prog_1_method_2_code, 6, (some FieldType.int), 0, 0, 1)
def m_Ta_cut : Mr := (⟨"GripEstates$Tape", "cut", "(I)Z"⟩, prog_8_method_4_code, 2, (some FieldType.boolean), 0, 0, 0)
def m_Gr_end : Mr := (⟨"GripEstates", "end", "(I)Z"⟩, prog_1_method_3_code, 2, (some FieldType.boolean), 0, 0, 1)
def m_Gr_fault : Mr := (⟨"GripEstates", "fault", "()I"⟩, prog_1_method_6_code, 1, (some FieldType.int), 0, 0, 0)
def m_Es_line : Mr := (⟨"GripEstates$Estates", "line", "(LGripEstates$Valley;I)I"⟩, prog_2_method_4_code, 5, (some FieldType.int), 0, 0, 0)
def m_Gr_round : Mr := (⟨"GripEstates", "round", "()I"⟩, prog_1_method_21_code, 3, (some FieldType.int), 0, 0, 1)
def m_Va_isLiving : Mr := (⟨"GripEstates$Valley", "isLiving", "(I)Z"⟩, prog_11_method_5_code, 2, (some FieldType.boolean), 0, 0, 0)
def m_Va_successor : Mr := (⟨"GripEstates$Valley", "successor", "(I)I"⟩, prog_11_method_15_code, 5, (some FieldType.int), 0, 0, 0)
def m_Gr_escheat : Mr := (⟨"GripEstates", "escheat", "()I"⟩, prog_1_method_22_code, 3, (some FieldType.int), 0, 0, 1)
def m_JI_bitCount : Mr := (⟨"java/lang/Integer", "bitCount", "(I)I"⟩, prog_24_method_49_code, 1, (some FieldType.int), 0, 0, 0)
def m_Es_allWatched : Mr := (⟨"GripEstates$Estates", "allWatched", "(LGripEstates$Valley;I)Z"⟩, prog_2_method_12_code, 4, (some FieldType.boolean), 0, 0, 1)
def m_Es_fewestWatchers : Mr := (⟨"GripEstates$Estates", "fewestWatchers", "(LGripEstates$Valley;)I"⟩, prog_2_method_11_code, 3, (some FieldType.int), 0, 0, 2)
def m_Gr_watch : Mr := (⟨"GripEstates", "watch", "()I"⟩, prog_1_method_23_code, 1, (some FieldType.int), 0, 0, 3)
def m_Gr_living : Mr := (⟨"GripEstates", "living", "()I"⟩, prog_1_method_36_code, 1, (some FieldType.int), 0, 0, 0)
def m_Va_holding : Mr := (⟨"GripEstates$Valley", "holding", "(I)I"⟩, prog_11_method_9_code, 3, (some FieldType.int), 0, 0, 0)
def m_Gr_idle : Mr := (⟨"GripEstates", "idle", "()I"⟩, prog_1_method_37_code, 3, (some FieldType.int), 0, 0, 1)
def m_Va_ownedBy : Mr := (⟨"GripEstates$Valley", "ownedBy", "(I)I"⟩, prog_11_method_10_code, 4, (some FieldType.int), 0, 0, 0)
def m_Gr_crown : Mr := (⟨"GripEstates", "crown", "()I"⟩, prog_1_method_38_code, 1, (some FieldType.int), 0, 0, 1)
def m_Va_worthOf : Mr := (⟨"GripEstates$Valley", "worthOf", "(I)I"⟩, prog_11_method_13_code, 4, (some FieldType.int), 0, 0, 0)
def m_Va_crownWealth : Mr := (⟨"GripEstates$Valley", "crownWealth", "()I"⟩, prog_11_method_14_code, 1, (some FieldType.int), 0, 0, 1)
def m_Gr_wealth : Mr := (⟨"GripEstates", "wealth", "()I"⟩, prog_1_method_39_code, 1, (some FieldType.int), 0, 0, 2)
def m_Gr_twins : Mr := (⟨"GripEstates", "twins", "()I"⟩, prog_1_method_40_code, 4, (some FieldType.int), 0, 0, 0)
def m_Gr_seed : Mr := (⟨"GripEstates", "seed", "(I)I"⟩, prog_1_method_46_code, 3, (some FieldType.int), 0, 0, 0)
def m_Lo_copyFrom : Mr := (⟨"GripEstates$Log", "copyFrom", "(LGripEstates$Log;)V"⟩, prog_5_method_2_code, 2, none, 0, 0, 1)
def m_Va_copyFrom : Mr := (⟨"GripEstates$Valley", "copyFrom", "(LGripEstates$Valley;)V"⟩, prog_11_method_2_code, 2, none, 0, 0, 2)
def m_Gr_undo : Mr := (⟨"GripEstates", "undo", "()Z"⟩, prog_1_method_47_code, 1, (some FieldType.boolean), 0, 0, 3)
def m_Gr_image : Mr := (⟨"GripEstates", "image", "()V"⟩, prog_1_method_48_code, 1, none, 0, 0, 3)
def m_Gr_forgetActs : Mr := (⟨"GripEstates", "forgetActs", "()V"⟩, prog_1_method_52_code, 1, none, 0, 0, 0)
def m_Gr_back : Mr := (⟨"GripEstates", "back", "()Z"⟩, prog_1_method_49_code, 1, (some FieldType.boolean), 0, 0, 3)
def m_Va_allThings : Mr := (⟨"GripEstates$Valley", "allThings", "()I"⟩, prog_11_method_8_code, 1, (some FieldType.int), 0, 0, 0)
def m_Va_howManyIn : Mr := (⟨"GripEstates$Valley", "howManyIn", "(I)I"⟩, prog_11_method_12_code, 4, (some FieldType.int), 0, 0, 0)
def m_Gr_count : Mr := (⟨"GripEstates", "count", "(I)I"⟩, prog_1_method_50_code, 2, (some FieldType.int), 0, 0, 1)
def m_Ta_useUp : Mr := (⟨"GripEstates$Tape", "useUp", "()V"⟩, prog_8_method_5_code, 1, none, 0, 0, 0)
def m_Ta_at : Mr := (⟨"GripEstates$Tape", "at", "(I)I"⟩, prog_8_method_6_code, 2, (some FieldType.int), 0, 0, 0)
def m_Re_isLetter : Mr := (⟨"GripEstates$Reader", "isLetter", "(I)Z"⟩, prog_7_method_13_code, 1, (some FieldType.boolean), 0, 0, 0)
def m_Re_isDigit : Mr := (⟨"GripEstates$Reader", "isDigit", "(I)Z"⟩, prog_7_method_14_code, 1, (some FieldType.boolean), 0, 0, 0)
def m_Re_endOfRun : Mr := (⟨"GripEstates$Reader", "endOfRun", "(LGripEstates$Tape;I)I"⟩, prog_7_method_12_code, 4, (some FieldType.int), 0, 0, 1)
def m_JS_coder : Mr := (⟨"java/lang/String", "coder", "()B"⟩, prog_27_method_152_code, 1, (some FieldType.byte), 0, 0, 0)
def m_JS_length : Mr := (⟨"java/lang/String", "length", "()I"⟩, prog_27_method_54_code, 1, (some FieldType.int), 0, 0, 1)
def m_JS_isLatin1 : Mr := (⟨"java/lang/String", "isLatin1", "()Z"⟩, prog_27_method_154_code, 1, (some FieldType.boolean), 0, 0, 0)
def m_JP_checkIndex : Mr := (⟨"jdk/internal/util/Preconditions", "checkIndex", "(IILjava/util/function/BiFunction;)I"⟩, prog_36_method_11_code, 3, (some FieldType.int), 0, 0, 0)
def m_JS_checkIndex : Mr := (⟨"java/lang/String", "checkIndex", "(II)V"⟩, prog_27_method_155_code, 2, none, 0, 0, 1)
def m_JL_charAt : Mr := (⟨"java/lang/StringLatin1", "charAt", "([BI)C"⟩, prog_28_method_2_code, 2, (some FieldType.char), 0, 0, 2)
def m_JS_charAt : Mr := (⟨"java/lang/String", "charAt", "(I)C"⟩, prog_27_method_56_code, 2, (some FieldType.char), 0, 0, 3)
def m_To_isAt : Mr := (⟨"GripEstates$Token", "isAt", "(LGripEstates$Tape;II)Z"⟩, prog_9_method_7_code, 5, (some FieldType.boolean), 0, 0, 4)
def m_To_spelt : Mr := (⟨"GripEstates$Token", "spelt", "(LGripEstates$Tape;II)LGripEstates$Token;"⟩, prog_9_method_6_code, 4, (some (FieldType.object "GripEstates$Token")), 0, 0, 5)
def m_Re_numberOf : Mr := (⟨"GripEstates$Reader", "numberOf", "(LGripEstates$Tape;II)I"⟩, prog_7_method_11_code, 5, (some FieldType.int), 0, 0, 1)
def m_Re_keep : Mr := (⟨"GripEstates$Reader", "keep", "(LGripEstates$Tape;II)V"⟩, prog_7_method_10_code, 5, none, 0, 0, 6)
def m_Re_start : Mr := (⟨"GripEstates$Reader", "start", "(LGripEstates$Tape;)V"⟩, prog_7_method_2_code, 5, none, 0, 0, 7)
def m_Re_token : Mr := (⟨"GripEstates$Reader", "token", "()LGripEstates$Token;"⟩, prog_7_method_3_code, 1, (some (FieldType.object "GripEstates$Token")), 0, 0, 0)
def m_Re_take : Mr := (⟨"GripEstates$Reader", "take", "(LGripEstates$Token;)Z"⟩, prog_7_method_6_code, 2, (some FieldType.boolean), 0, 0, 0)
def m_Re_takeNumber : Mr := (⟨"GripEstates$Reader", "takeNumber", "(II)Z"⟩, prog_7_method_7_code, 3, (some FieldType.boolean), 0, 0, 0)
def m_Re_takeNamed : Mr := (⟨"GripEstates$Reader", "takeNamed", "(LGripEstates$Token;II)Z"⟩, prog_7_method_8_code, 4, (some FieldType.boolean), 0, 0, 1)
def m_Re_value : Mr := (⟨"GripEstates$Reader", "value", "()I"⟩, prog_7_method_4_code, 1, (some FieldType.int), 0, 0, 0)
def m_Vr_takeLiving : Mr := (⟨"GripEstates$ValleyReader", "takeLiving", "(LGripEstates$Valley;)Z"⟩, prog_12_method_10_code, 2, (some FieldType.boolean), 0, 0, 1)
def m_Va_addPerson : Mr := (⟨"GripEstates$Valley", "addPerson", "(IIIZ)V"⟩, prog_11_method_19_code, 5, none, 0, 0, 0)
def m_Vr_readPerson : Mr := (⟨"GripEstates$ValleyReader", "readPerson", "(LGripEstates$Valley;)Z"⟩, prog_12_method_5_code, 5, (some FieldType.boolean), 0, 0, 2)
def m_Vr_readHeir : Mr := (⟨"GripEstates$ValleyReader", "readHeir", "(LGripEstates$Valley;)Z"⟩, prog_12_method_6_code, 3, (some FieldType.boolean), 0, 0, 2)
def m_Va_addThing : Mr := (⟨"GripEstates$Valley", "addThing", "(III)V"⟩, prog_11_method_20_code, 4, none, 0, 0, 0)
def m_Va_move : Mr := (⟨"GripEstates$Valley", "move", "(III)V"⟩, prog_11_method_21_code, 4, none, 0, 0, 0)
def m_Vr_readPlace : Mr := (⟨"GripEstates$ValleyReader", "readPlace", "(LGripEstates$Valley;I)Z"⟩, prog_12_method_8_code, 3, (some FieldType.boolean), 0, 0, 2)
def m_Vr_readThing : Mr := (⟨"GripEstates$ValleyReader", "readThing", "(LGripEstates$Valley;)Z"⟩, prog_12_method_7_code, 4, (some FieldType.boolean), 0, 0, 3)
def m_Vr_readCrownThing : Mr := (⟨"GripEstates$ValleyReader", "readCrownThing", "(LGripEstates$Valley;)Z"⟩, prog_12_method_9_code, 3, (some FieldType.boolean), 0, 0, 2)
def m_Vr_readSetting : Mr := (⟨"GripEstates$ValleyReader", "readSetting", "(LGripEstates$Valley;LGripEstates$Token;)Z"⟩, prog_12_method_4_code, 3, (some FieldType.boolean), 0, 0, 2)
def m_Vr_readLine : Mr := (⟨"GripEstates$ValleyReader", "readLine", "(LGripEstates$Valley;)Z"⟩, prog_12_method_3_code, 3, (some FieldType.boolean), 0, 0, 4)
def m_Re_begin : Mr := (⟨"GripEstates$Reader", "begin", "()I"⟩, prog_7_method_5_code, 1, (some FieldType.int), 0, 0, 0)
def m_Vr_read : Mr := (⟨"GripEstates$ValleyReader", "read", "(LGripEstates$Tape;LGripEstates$Valley;)I"⟩, prog_12_method_2_code, 5, (some FieldType.int), 0, 0, 8)
def m_Gr_needNumber : Mr := (⟨"GripEstates", "needNumber", "(Z)V"⟩, prog_1_method_55_code, 1, none, 1, 6, 6)
def m_Gr_valley : Mr := (⟨"GripEstates", "valley", "()I"⟩, prog_1_method_4_code, 1, (some FieldType.int), 2, 12, 9)
def m_Lr_kindOf : Mr := (⟨"GripEstates$LawReader", "kindOf", "(LGripEstates$Token;)I"⟩, prog_4_method_5_code, 1, (some FieldType.int), 0, 0, 0)
def m_Re_step : Mr := (⟨"GripEstates$Reader", "step", "()V"⟩, prog_7_method_9_code, 1, none, 0, 0, 0)
def m_Lr_write : Mr := (⟨"GripEstates$LawReader", "write", "(I)V"⟩, prog_4_method_10_code, 2, none, 0, 0, 0)
def m_To_isTruth : Mr := (⟨"GripEstates$Token", "isTruth", "()Z"⟩, prog_9_method_5_code, 1, (some FieldType.boolean), 0, 0, 0)
def m_To_isPart : Mr := (⟨"GripEstates$Token", "isPart", "()Z"⟩, prog_9_method_4_code, 1, (some FieldType.boolean), 0, 0, 0)
def m_Lr_sum : Mr := (⟨"GripEstates$LawReader", "sum", "()Z"⟩, prog_4_method_9_code, 3, (some FieldType.boolean), 0, 0, 1)
def m_Lr_atom (d : Nat) : Mr := (⟨"GripEstates$LawReader", "atom", "(I)Z"⟩, prog_4_method_8_code, 5, (some FieldType.boolean), 0, 0, d)
def m_Lr_allOf (d : Nat) : Mr := (⟨"GripEstates$LawReader", "allOf", "(I)Z"⟩, prog_4_method_7_code, 3, (some FieldType.boolean), 0, 0, d)
def m_Lr_anyOf (d : Nat) : Mr := (⟨"GripEstates$LawReader", "anyOf", "(I)Z"⟩, prog_4_method_6_code, 3, (some FieldType.boolean), 0, 0, d)
def m_Lr_readLine : Mr := (⟨"GripEstates$LawReader", "readLine", "(I)Z"⟩, prog_4_method_4_code, 4, (some FieldType.boolean), 0, 0, 41)
def m_Lr_read : Mr := (⟨"GripEstates$LawReader", "read", "(LGripEstates$Tape;)I"⟩, prog_4_method_2_code, 4, (some FieldType.int), 0, 0, 42)
def m_La_init2 : Mr := (⟨"GripEstates$Law", "<init>", "(I[I[I[I[I)V"⟩, prog_3_method_2_code, 6, none, 4, 836, 1)
def m_Lr_made : Mr := (⟨"GripEstates$LawReader", "made", "()LGripEstates$Law;"⟩, prog_4_method_3_code, 1, (some (FieldType.object "GripEstates$Law")), 5, 841, 2)
def m_Gr_law : Mr := (⟨"GripEstates", "law", "()I"⟩, prog_1_method_5_code, 1, (some FieldType.int), 6, 847, 43)
def m_Va_isPerson : Mr := (⟨"GripEstates$Valley", "isPerson", "(I)Z"⟩, prog_11_method_3_code, 2, (some FieldType.boolean), 0, 0, 0)
def m_Gr_needPerson : Mr := (⟨"GripEstates", "needPerson", "(I)V"⟩, prog_1_method_53_code, 2, none, 1, 6, 6)
def m_Va_clothOf : Mr := (⟨"GripEstates$Valley", "clothOf", "(I)I"⟩, prog_11_method_11_code, 4, (some FieldType.int), 0, 0, 0)
def m_Va_measure : Mr := (⟨"GripEstates$Valley", "measure", "(II)I"⟩, prog_11_method_18_code, 4, (some FieldType.int), 0, 0, 1)
def m_La_holds : Mr := (⟨"GripEstates$Law", "holds", "(LGripEstates$Valley;III)Z"⟩, prog_3_method_4_code, 11, (some FieldType.boolean), 0, 0, 2)
def m_La_total : Mr := (⟨"GripEstates$Law", "total", "(LGripEstates$Valley;II)I"⟩, prog_3_method_3_code, 7, (some FieldType.int), 0, 0, 3)
def m_Va_grips : Mr := (⟨"GripEstates$Valley", "grips", "(I)I"⟩, prog_11_method_16_code, 5, (some FieldType.int), 0, 0, 4)
def m_Va_fails : Mr := (⟨"GripEstates$Valley", "fails", "(I)I"⟩, prog_11_method_17_code, 2, (some FieldType.int), 0, 0, 4)
def m_Es_estate : Mr := (⟨"GripEstates$Estates", "estate", "(LGripEstates$Valley;I)I"⟩, prog_2_method_2_code, 3, (some FieldType.int), 0, 0, 1)
def m_Es_lost : Mr := (⟨"GripEstates$Estates", "lost", "(LGripEstates$Valley;I)I"⟩, prog_2_method_3_code, 2, (some FieldType.int), 0, 0, 2)
def m_Es_hangers : Mr := (⟨"GripEstates$Estates", "hangers", "(LGripEstates$Valley;I)I"⟩, prog_2_method_5_code, 4, (some FieldType.int), 0, 0, 1)
def m_Es_hoped : Mr := (⟨"GripEstates$Estates", "hoped", "(LGripEstates$Valley;I)I"⟩, prog_2_method_7_code, 6, (some FieldType.int), 0, 0, 5)
def m_Ma_isBetter : Mr := (⟨"GripEstates$Matches", "isBetter", "(LGripEstates$Valley;II)Z"⟩, prog_6_method_16_code, 4, (some FieldType.boolean), 0, 0, 0)
def m_Ma_point : Mr := (⟨"GripEstates$Matches", "point", "(LGripEstates$Valley;I)V"⟩, prog_6_method_15_code, 6, none, 0, 0, 1)
def m_Ma_inRings : Mr := (⟨"GripEstates$Matches", "inRings", "(LGripEstates$Valley;I)I"⟩, prog_6_method_17_code, 7, (some FieldType.int), 0, 0, 0)
def m_Ma_core : Mr := (⟨"GripEstates$Matches", "core", "(LGripEstates$Valley;I)I"⟩, prog_6_method_14_code, 6, (some FieldType.int), 0, 0, 5)
def m_Es_share : Mr := (⟨"GripEstates$Estates", "share", "(LGripEstates$Valley;I)I"⟩, prog_2_method_8_code, 3, (some FieldType.int), 0, 0, 1)
def m_Gr_person : Mr := (⟨"GripEstates", "person", "(II)I"⟩, prog_1_method_7_code, 3, (some FieldType.int), 2, 12, 7)
def m_Va_isThing : Mr := (⟨"GripEstates$Valley", "isThing", "(I)Z"⟩, prog_11_method_4_code, 2, (some FieldType.boolean), 0, 0, 0)
def m_Gr_needThing : Mr := (⟨"GripEstates", "needThing", "(I)V"⟩, prog_1_method_54_code, 2, none, 1, 6, 6)
def m_Gr_thing : Mr := (⟨"GripEstates", "thing", "(II)I"⟩, prog_1_method_8_code, 3, (some FieldType.int), 2, 12, 7)
def m_Va_fits : Mr := (⟨"GripEstates$Valley", "fits", "(II)Z"⟩, prog_11_method_7_code, 3, (some FieldType.boolean), 0, 0, 5)
def m_Es_shutting : Mr := (⟨"GripEstates$Estates", "shutting", "(LGripEstates$Valley;II)I"⟩, prog_2_method_6_code, 4, (some FieldType.int), 0, 0, 6)
def m_Gr_shuts : Mr := (⟨"GripEstates", "shuts", "(II)I"⟩, prog_1_method_9_code, 3, (some FieldType.int), 2, 12, 7)
def m_Gr_remember : Mr := (⟨"GripEstates", "remember", "()V"⟩, prog_1_method_51_code, 1, none, 0, 0, 3)
def m_Lo_add : Mr := (⟨"GripEstates$Log", "add", "(IIIII)V"⟩, prog_5_method_3_code, 7, none, 0, 0, 1)
def m_Va_letGo : Mr := (⟨"GripEstates$Valley", "letGo", "()V"⟩, prog_11_method_26_code, 3, none, 0, 0, 5)
def m_Va_draw : Mr := (⟨"GripEstates$Valley", "draw", "()I"⟩, prog_11_method_23_code, 1, (some FieldType.int), 0, 0, 0)
def m_Va_numbered : Mr := (⟨"GripEstates$Valley", "numbered", "(II)I"⟩, prog_11_method_28_code, 5, (some FieldType.int), 0, 0, 0)
def m_Va_feel : Mr := (⟨"GripEstates$Valley", "feel", "()V"⟩, prog_11_method_27_code, 5, none, 0, 0, 5)
def m_Va_die : Mr := (⟨"GripEstates$Valley", "die", "(I)V"⟩, prog_11_method_30_code, 6, none, 0, 0, 2)
def m_Va_wakeOrDie : Mr := (⟨"GripEstates$Valley", "wakeOrDie", "()V"⟩, prog_11_method_29_code, 2, none, 0, 0, 5)
def m_Va_pass : Mr := (⟨"GripEstates$Valley", "pass", "(I)I"⟩, prog_11_method_24_code, 4, (some FieldType.int), 0, 0, 6)
def m_Gr_nights : Mr := (⟨"GripEstates", "nights", "(I)I"⟩, prog_1_method_10_code, 2, (some FieldType.int), 1, 6, 7)
def m_Va_isFree : Mr := (⟨"GripEstates$Valley", "isFree", "(I)Z"⟩, prog_11_method_6_code, 2, (some FieldType.boolean), 0, 0, 0)
def m_Gr_needState : Mr := (⟨"GripEstates", "needState", "(Z)V"⟩, prog_1_method_56_code, 1, none, 1, 6, 6)
def m_Gr_lay : Mr := (⟨"GripEstates", "lay", "(II)I"⟩, prog_1_method_11_code, 3, (some FieldType.int), 3, 18, 7)
def m_Gr_clear : Mr := (⟨"GripEstates", "clear", "(I)I"⟩, prog_1_method_12_code, 3, (some FieldType.int), 2, 12, 7)
def m_Gr_wake : Mr := (⟨"GripEstates", "wake", "(I)I"⟩, prog_1_method_13_code, 3, (some FieldType.int), 3, 18, 7)
def m_Gr_open : Mr := (⟨"GripEstates", "open", "(I)I"⟩, prog_1_method_14_code, 3, (some FieldType.int), 2, 12, 7)
def m_Va_handOver : Mr := (⟨"GripEstates$Valley", "handOver", "(II)V"⟩, prog_11_method_22_code, 3, none, 0, 0, 1)
def m_Gr_swap : Mr := (⟨"GripEstates", "swap", "(II)I"⟩, prog_1_method_15_code, 5, (some FieldType.int), 4, 24, 7)
def m_Gr_heir : Mr := (⟨"GripEstates", "heir", "(II)I"⟩, prog_1_method_16_code, 4, (some FieldType.int), 3, 18, 7)
def m_Gr_tie : Mr := (⟨"GripEstates", "tie", "(IZ)Z"⟩, prog_1_method_17_code, 4, (some FieldType.boolean), 1, 6, 7)
def m_Gr_born : Mr := (⟨"GripEstates", "born", "(I)I"⟩, prog_1_method_18_code, 2, (some FieldType.int), 2, 12, 7)
def m_Gr_give : Mr := (⟨"GripEstates", "give", "(II)I"⟩, prog_1_method_19_code, 4, (some FieldType.int), 3, 18, 7)
def m_Es_sizeOf : Mr := (⟨"GripEstates$Estates", "sizeOf", "(LGripEstates$Valley;I)I"⟩, prog_2_method_10_code, 4, (some FieldType.int), 0, 0, 0)
def m_Es_basket : Mr := (⟨"GripEstates$Estates", "basket", "(LGripEstates$Valley;II)I"⟩, prog_2_method_9_code, 8, (some FieldType.int), 0, 0, 1)
def m_Gr_hoard : Mr := (⟨"GripEstates", "hoard", "(IIZ)I"⟩, prog_1_method_20_code, 5, (some FieldType.int), 2, 12, 7)
def m_Ma_readHands : Mr := (⟨"GripEstates$Matches", "readHands", "(LGripEstates$Valley;)V"⟩, prog_6_method_7_code, 4, none, 0, 0, 5)
def m_Ma_weakestHand : Mr := (⟨"GripEstates$Matches", "weakestHand", "(II)I"⟩, prog_6_method_6_code, 5, (some FieldType.int), 0, 0, 0)
def m_Ma_mostHeldBy : Mr := (⟨"GripEstates$Matches", "mostHeldBy", "(LGripEstates$Valley;II)I"⟩, prog_6_method_5_code, 9, (some FieldType.int), 0, 0, 1)
def m_Ma_mostHeld : Mr := (⟨"GripEstates$Matches", "mostHeld", "(LGripEstates$Valley;)I"⟩, prog_6_method_2_code, 2, (some FieldType.int), 0, 0, 6)
def m_Ma_leastChoice : Mr := (⟨"GripEstates$Matches", "leastChoice", "(LGripEstates$Valley;IIII)I"⟩, prog_6_method_4_code, 7, (some FieldType.int), 0, 0, 2)
def m_Ma_thingPutTo : Mr := (⟨"GripEstates$Matches", "thingPutTo", "(LGripEstates$Valley;I)I"⟩, prog_6_method_3_code, 8, (some FieldType.int), 0, 0, 6)
def m_Gr_put : Mr := (⟨"GripEstates", "put", "(I)I"⟩, prog_1_method_24_code, 2, (some FieldType.int), 1, 6, 7)
def m_Td_hasRows : Mr := (⟨"GripEstates$Told", "hasRows", "(LGripEstates$Tape;)Z"⟩, prog_10_method_5_code, 1, (some FieldType.boolean), 0, 0, 0)
def m_Td_tellsThings : Mr := (⟨"GripEstates$Told", "tellsThings", "(LGripEstates$Tape;)Z"⟩, prog_10_method_2_code, 2, (some FieldType.boolean), 0, 0, 1)
def m_Td_tellable : Mr := (⟨"GripEstates$Told", "tellable", "(LGripEstates$Valley;II)I"⟩, prog_10_method_11_code, 3, (some FieldType.int), 0, 0, 0)
def m_Td_wrongOfThing : Mr := (⟨"GripEstates$Told", "wrongOfThing", "(LGripEstates$Tape;LGripEstates$Valley;I)I"⟩, prog_10_method_10_code, 5, (some FieldType.int), 0, 0, 1)
def m_Td_fittingThings : Mr := (⟨"GripEstates$Told", "fittingThings", "(LGripEstates$Tape;LGripEstates$Valley;)I"⟩, prog_10_method_6_code, 4, (some FieldType.int), 0, 0, 2)
def m_Gr_held : Mr := (⟨"GripEstates", "held", "()I"⟩, prog_1_method_25_code, 1, (some FieldType.int), 1, 6, 7)
def m_Td_likeliestThing : Mr := (⟨"GripEstates$Told", "likeliestThing", "(LGripEstates$Tape;LGripEstates$Valley;)I"⟩, prog_10_method_7_code, 7, (some FieldType.int), 0, 0, 2)
def m_Gr_likely : Mr := (⟨"GripEstates", "likely", "()I"⟩, prog_1_method_26_code, 1, (some FieldType.int), 1, 6, 7)
def m_Td_greatestPart : Mr := (⟨"GripEstates$Told", "greatestPart", "(LGripEstates$Valley;II)I"⟩, prog_10_method_9_code, 7, (some FieldType.int), 0, 0, 1)
def m_Td_bestQuestion : Mr := (⟨"GripEstates$Told", "bestQuestion", "(LGripEstates$Valley;I)I"⟩, prog_10_method_8_code, 6, (some FieldType.int), 0, 0, 2)
def m_Gr_ask : Mr := (⟨"GripEstates", "ask", "()I"⟩, prog_1_method_27_code, 1, (some FieldType.int), 1, 6, 7)
def m_Td_tellsSizes : Mr := (⟨"GripEstates$Told", "tellsSizes", "(LGripEstates$Tape;)Z"⟩, prog_10_method_3_code, 2, (some FieldType.boolean), 0, 0, 1)
def m_Td_wrongOfStrength : Mr := (⟨"GripEstates$Told", "wrongOfStrength", "(LGripEstates$Tape;I)I"⟩, prog_10_method_15_code, 5, (some FieldType.int), 0, 0, 1)
def m_Td_leastStrength : Mr := (⟨"GripEstates$Told", "leastStrength", "(LGripEstates$Tape;)I"⟩, prog_10_method_13_code, 5, (some FieldType.int), 0, 0, 2)
def m_Td_fittingStrengths : Mr := (⟨"GripEstates$Told", "fittingStrengths", "(LGripEstates$Tape;)I"⟩, prog_10_method_12_code, 3, (some FieldType.int), 0, 0, 2)
def m_Gr_strong : Mr := (⟨"GripEstates", "strong", "(Z)I"⟩, prog_1_method_28_code, 2, (some FieldType.int), 1, 6, 7)
def m_Td_bestSize : Mr := (⟨"GripEstates$Told", "bestSize", "(I)I"⟩, prog_10_method_14_code, 7, (some FieldType.int), 0, 0, 1)
def m_Gr_test : Mr := (⟨"GripEstates", "test", "()I"⟩, prog_1_method_29_code, 1, (some FieldType.int), 1, 6, 7)
def m_Td_tellsFingers : Mr := (⟨"GripEstates$Told", "tellsFingers", "(LGripEstates$Tape;)Z"⟩, prog_10_method_4_code, 2, (some FieldType.boolean), 0, 0, 1)
def m_Td_winningOpening : Mr := (⟨"GripEstates$Told", "winningOpening", "(LGripEstates$Tape;I)I"⟩, prog_10_method_16_code, 8, (some FieldType.int), 0, 0, 1)
def m_Gr_fingers : Mr := (⟨"GripEstates", "fingers", "(I)Z"⟩, prog_1_method_30_code, 2, (some FieldType.boolean), 1, 6, 7)
def m_Gr_opens : Mr := (⟨"GripEstates", "opens", "(I)I"⟩, prog_1_method_31_code, 2, (some FieldType.int), 1, 6, 7)
def m_Ma_mayPair : Mr := (⟨"GripEstates$Matches", "mayPair", "(LGripEstates$Valley;II)Z"⟩, prog_6_method_12_code, 3, (some FieldType.boolean), 0, 0, 0)
def m_Ma_gripsOf : Mr := (⟨"GripEstates$Matches", "gripsOf", "(LGripEstates$Valley;II)I"⟩, prog_6_method_13_code, 3, (some FieldType.int), 0, 0, 0)
def m_Ma_readPairs : Mr := (⟨"GripEstates$Matches", "readPairs", "(LGripEstates$Valley;)V"⟩, prog_6_method_11_code, 6, none, 0, 0, 1)
def m_Ma_mostPaired : Mr := (⟨"GripEstates$Matches", "mostPaired", "(LGripEstates$Valley;)I"⟩, prog_6_method_8_code, 2, (some FieldType.int), 0, 0, 2)
def m_Ma_leastPartner : Mr := (⟨"GripEstates$Matches", "leastPartner", "(LGripEstates$Valley;II)I"⟩, prog_6_method_10_code, 6, (some FieldType.int), 0, 0, 1)
def m_Ma_partner : Mr := (⟨"GripEstates$Matches", "partner", "(LGripEstates$Valley;I)I"⟩, prog_6_method_9_code, 6, (some FieldType.int), 0, 0, 2)
def m_Gr_pairs : Mr := (⟨"GripEstates", "pairs", "(I)I"⟩, prog_1_method_32_code, 2, (some FieldType.int), 1, 6, 7)
def m_Es_heirHas : Mr := (⟨"GripEstates$Estates", "heirHas", "(III)I"⟩, prog_2_method_14_code, 3, (some FieldType.int), 0, 0, 0)
def m_Es_nurseHas : Mr := (⟨"GripEstates$Estates", "nurseHas", "(II)I"⟩, prog_2_method_15_code, 2, (some FieldType.int), 0, 0, 0)
def m_Es_restingChoices : Mr := (⟨"GripEstates$Estates", "restingChoices", "(LGripEstates$Valley;I)I"⟩, prog_2_method_13_code, 8, (some FieldType.int), 0, 0, 3)
def m_Gr_rests : Mr := (⟨"GripEstates", "rests", "(I)I"⟩, prog_1_method_33_code, 2, (some FieldType.int), 1, 6, 7)
def m_Es_oddsThatAllWake : Mr := (⟨"GripEstates$Estates", "oddsThatAllWake", "(LGripEstates$Valley;I)I"⟩, prog_2_method_16_code, 5, (some FieldType.int), 0, 0, 5)
def m_Gr_odds : Mr := (⟨"GripEstates", "odds", "(I)I"⟩, prog_1_method_34_code, 2, (some FieldType.int), 1, 6, 7)
def m_Es_standing : Mr := (⟨"GripEstates$Estates", "standing", "(LGripEstates$Valley;II)I"⟩, prog_2_method_18_code, 3, (some FieldType.int), 0, 0, 5)
def m_Es_foremost : Mr := (⟨"GripEstates$Estates", "foremost", "(LGripEstates$Valley;I)I"⟩, prog_2_method_17_code, 5, (some FieldType.int), 0, 0, 6)
def m_Gr_most : Mr := (⟨"GripEstates", "most", "(I)I"⟩, prog_1_method_35_code, 2, (some FieldType.int), 1, 6, 7)
def m_Va_passLettingGo : Mr := (⟨"GripEstates$Valley", "passLettingGo", "(I)V"⟩, prog_11_method_25_code, 3, none, 0, 0, 6)
def m_Gr_ahead : Mr := (⟨"GripEstates", "ahead", "(II)I"⟩, prog_1_method_41_code, 3, (some FieldType.int), 2, 12, 7)
def m_Gr_trial : Mr := (⟨"GripEstates", "trial", "(IZ)I"⟩, prog_1_method_42_code, 3, (some FieldType.int), 1, 6, 7)
def m_Gr_span : Mr := (⟨"GripEstates", "span", "(IZ)I"⟩, prog_1_method_43_code, 6, (some FieldType.int), 1, 6, 7)
def m_Lo_read : Mr := (⟨"GripEstates$Log", "read", "(II)I"⟩, prog_5_method_4_code, 3, (some FieldType.int), 0, 0, 0)
def m_Lo_latestNightOf : Mr := (⟨"GripEstates$Log", "latestNightOf", "(I)I"⟩, prog_5_method_6_code, 3, (some FieldType.int), 0, 0, 1)
def m_Lo_rowsOf : Mr := (⟨"GripEstates$Log", "rowsOf", "(I)I"⟩, prog_5_method_5_code, 4, (some FieldType.int), 0, 0, 1)
def m_Gr_led : Mr := (⟨"GripEstates", "led", "(IZ)I"⟩, prog_1_method_44_code, 3, (some FieldType.int), 1, 6, 7)
def m_Gr_log : Mr := (⟨"GripEstates", "log", "(II)I"⟩, prog_1_method_45_code, 3, (some FieldType.int), 1, 6, 6)
def m_Mo_thrown : Mr := (⟨"GripEstatesModel", "thrown", "()I"⟩, prog_14_method_1_code, 1, (some FieldType.int), 0, 0, 0)
def m_Mo_init : Mr := (⟨"GripEstatesModel", "<init>", "()V"⟩, prog_14_method_5_code, 1, none, 15, 18953, 1)
def m_Mo_image : Mr := (⟨"GripEstatesModel", "image", "()V"⟩, prog_14_method_6_code, 2, none, 0, 0, 0)
def m_Mo_back : Mr := (⟨"GripEstatesModel", "back", "()Z"⟩, prog_14_method_7_code, 2, (some FieldType.boolean), 0, 0, 0)
def m_Mo_undo : Mr := (⟨"GripEstatesModel", "undo", "()Z"⟩, prog_14_method_9_code, 2, (some FieldType.boolean), 0, 0, 0)
def m_Mo_feed : Mr := (⟨"GripEstatesModel", "feed", "(IIIII)I"⟩, prog_14_method_29_code, 7, (some FieldType.int), 0, 0, 0)
def m_Mo_end : Mr := (⟨"GripEstatesModel", "end", "(I)Z"⟩, prog_14_method_30_code, 2, (some FieldType.boolean), 0, 0, 0)
def m_Mo_fault : Mr := (⟨"GripEstatesModel", "fault", "()I"⟩, prog_14_method_40_code, 1, (some FieldType.int), 0, 0, 0)
def m_Mo_uses : Mr := (⟨"GripEstatesModel", "uses", "()V"⟩, prog_14_method_41_code, 1, none, 0, 0, 0)
def m_Mo_isAt : Mr := (⟨"GripEstatesModel", "isAt", "(II)Z"⟩, prog_14_method_31_code, 3, (some FieldType.boolean), 0, 0, 0)
def m_Mo_blanks : Mr := (⟨"GripEstatesModel", "blanks", "()V"⟩, prog_14_method_32_code, 1, none, 0, 0, 1)
def m_Mo_letters : Mr := (⟨"GripEstatesModel", "letters", "()V"⟩, prog_14_method_33_code, 1, none, 0, 0, 2)
def m_Mo_isWord : Mr := (⟨"GripEstatesModel", "isWord", "(Ljava/lang/String;)Z"⟩, prog_14_method_34_code, 4, (some FieldType.boolean), 0, 0, 4)
def m_Mo_people : Mr := (⟨"GripEstatesModel", "people", "()I"⟩, prog_14_method_12_code, 1, (some FieldType.int), 0, 0, 0)
def m_Mo_number : Mr := (⟨"GripEstatesModel", "number", "(II)I"⟩, prog_14_method_37_code, 4, (some FieldType.int), 0, 0, 2)
def m_Mo_behind : Mr := (⟨"GripEstatesModel", "behind", "(Ljava/lang/String;II)I"⟩, prog_14_method_38_code, 4, (some FieldType.int), 0, 0, 5)
def m_Mo_passes : Mr := (⟨"GripEstatesModel", "passes", "(Ljava/lang/String;)Z"⟩, prog_14_method_35_code, 2, (some FieldType.boolean), 0, 0, 5)
def m_Mo_personAt : Mr := (⟨"GripEstatesModel", "personAt", "(II)I"⟩, prog_14_method_14_code, 2, (some FieldType.int), 0, 0, 0)
def m_Mo_of : Mr := (⟨"GripEstatesModel", "of", "(II)I"⟩, prog_14_method_15_code, 3, (some FieldType.int), 0, 0, 1)
def m_Mo_lives : Mr := (⟨"GripEstatesModel", "lives", "(I)Z"⟩, prog_14_method_20_code, 2, (some FieldType.boolean), 0, 0, 2)
def m_Mo_livingNumber : Mr := (⟨"GripEstatesModel", "livingNumber", "()I"⟩, prog_14_method_39_code, 2, (some FieldType.int), 0, 0, 3)
def m_Mo_isBorn : Mr := (⟨"GripEstatesModel", "isBorn", "(II)I"⟩, prog_14_method_43_code, 4, (some FieldType.int), 0, 0, 1)
def m_Mo_readPerson : Mr := (⟨"GripEstatesModel", "readPerson", "()Z"⟩, prog_14_method_44_code, 5, (some FieldType.boolean), 0, 0, 6)
def m_Mo_readHeir : Mr := (⟨"GripEstatesModel", "readHeir", "()Z"⟩, prog_14_method_45_code, 3, (some FieldType.boolean), 0, 0, 4)
def m_Mo_things : Mr := (⟨"GripEstatesModel", "things", "()I"⟩, prog_14_method_13_code, 1, (some FieldType.int), 0, 0, 0)
def m_Mo_thingAt : Mr := (⟨"GripEstatesModel", "thingAt", "(II)I"⟩, prog_14_method_16_code, 2, (some FieldType.int), 0, 0, 0)
def m_Mo_lies : Mr := (⟨"GripEstatesModel", "lies", "(III)V"⟩, prog_14_method_27_code, 4, none, 0, 0, 1)
def m_Mo_isThing : Mr := (⟨"GripEstatesModel", "isThing", "(III)V"⟩, prog_14_method_46_code, 5, none, 0, 0, 2)
def m_Mo_ofThing : Mr := (⟨"GripEstatesModel", "ofThing", "(II)I"⟩, prog_14_method_17_code, 3, (some FieldType.int), 0, 0, 1)
def m_Mo_isWith : Mr := (⟨"GripEstatesModel", "isWith", "(III)Z"⟩, prog_14_method_22_code, 4, (some FieldType.boolean), 0, 0, 2)
def m_Mo_heldBy : Mr := (⟨"GripEstatesModel", "heldBy", "(I)I"⟩, prog_14_method_23_code, 4, (some FieldType.int), 0, 0, 3)
def m_Mo_readWhere : Mr := (⟨"GripEstatesModel", "readWhere", "()Z"⟩, prog_14_method_47_code, 4, (some FieldType.boolean), 0, 0, 6)
def m_Mo_readThing : Mr := (⟨"GripEstatesModel", "readThing", "(Z)Z"⟩, prog_14_method_48_code, 5, (some FieldType.boolean), 0, 0, 7)
def m_Mo_readNumber : Mr := (⟨"GripEstatesModel", "readNumber", "(III)Z"⟩, prog_14_method_42_code, 5, (some FieldType.boolean), 0, 0, 3)
def m_Mo_readValleyLine : Mr := (⟨"GripEstatesModel", "readValleyLine", "()Z"⟩, prog_14_method_49_code, 1, (some FieldType.boolean), 0, 0, 8)
def m_Mo_sign : Mr := (⟨"GripEstatesModel", "sign", "(I)Z"⟩, prog_14_method_36_code, 2, (some FieldType.boolean), 0, 0, 2)
def m_Mo_emits : Mr := (⟨"GripEstatesModel", "emits", "(II)V"⟩, prog_14_method_50_code, 3, none, 0, 0, 0)
def m_Mo_readTag : Mr := (⟨"GripEstatesModel", "readTag", "()Z"⟩, prog_14_method_54_code, 2, (some FieldType.boolean), 0, 0, 5)
def m_Mo_wordOfPart : Mr := (⟨"GripEstatesModel", "wordOfPart", "()I"⟩, prog_14_method_51_code, 1, (some FieldType.int), 0, 0, 5)
def m_Mo_readPart : Mr := (⟨"GripEstatesModel", "readPart", "()Z"⟩, prog_14_method_52_code, 3, (some FieldType.boolean), 0, 0, 6)
def m_Mo_readSum : Mr := (⟨"GripEstatesModel", "readSum", "()Z"⟩, prog_14_method_53_code, 1, (some FieldType.boolean), 0, 0, 7)
def m_Mo_readAtom (d : Nat) : Mr := (⟨"GripEstatesModel", "readAtom", "()Z"⟩, prog_14_method_55_code, 2, (some FieldType.boolean), 0, 0, d)
def m_Mo_readAllOf (d : Nat) : Mr := (⟨"GripEstatesModel", "readAllOf", "()Z"⟩, prog_14_method_56_code, 1, (some FieldType.boolean), 0, 0, d)
def m_Mo_readCond (d : Nat) : Mr := (⟨"GripEstatesModel", "readCond", "()Z"⟩, prog_14_method_57_code, 1, (some FieldType.boolean), 0, 0, d)
def m_Mo_readLawLine : Mr := (⟨"GripEstatesModel", "readLawLine", "(I)Z"⟩, prog_14_method_58_code, 3, (some FieldType.boolean), 0, 0, 41)
def m_Mo_readLine : Mr := (⟨"GripEstatesModel", "readLine", "(ZI)Z"⟩, prog_14_method_59_code, 3, (some FieldType.boolean), 0, 0, 42)
def m_Mo_readAll : Mr := (⟨"GripEstatesModel", "readAll", "(Z)I"⟩, prog_14_method_60_code, 3, (some FieldType.int), 0, 0, 43)
def m_Mo_throwsIf : Mr := (⟨"GripEstatesModel", "throwsIf", "(ZI)Z"⟩, prog_14_method_2_code, 3, (some FieldType.boolean), 0, 0, 0)
def m_Mo_valley : Mr := (⟨"GripEstatesModel", "valley", "()I"⟩, prog_14_method_61_code, 3, (some FieldType.int), 0, 0, 44)
def m_Mo_law : Mr := (⟨"GripEstatesModel", "law", "()I"⟩, prog_14_method_62_code, 3, (some FieldType.int), 0, 0, 44)
def m_Mo_in : Mr := (⟨"GripEstatesModel", "in", "(III)Z"⟩, prog_14_method_3_code, 3, (some FieldType.boolean), 0, 0, 0)
def m_Mo_noPerson : Mr := (⟨"GripEstatesModel", "noPerson", "(I)Z"⟩, prog_14_method_18_code, 2, (some FieldType.boolean), 0, 0, 1)
def m_Mo_ownedBy : Mr := (⟨"GripEstatesModel", "ownedBy", "(I)I"⟩, prog_14_method_25_code, 4, (some FieldType.int), 0, 0, 2)
def m_Mo_onClothOf : Mr := (⟨"GripEstatesModel", "onClothOf", "(I)I"⟩, prog_14_method_24_code, 4, (some FieldType.int), 0, 0, 3)
def m_Mo_allLiving : Mr := (⟨"GripEstatesModel", "allLiving", "()I"⟩, prog_14_method_21_code, 3, (some FieldType.int), 0, 0, 3)
def m_Mo_successorOf : Mr := (⟨"GripEstatesModel", "successorOf", "(I)I"⟩, prog_14_method_63_code, 4, (some FieldType.int), 0, 0, 4)
def m_Mo_factOf : Mr := (⟨"GripEstatesModel", "factOf", "(III)I"⟩, prog_14_method_65_code, 4, (some FieldType.int), 0, 0, 5)
def m_Mo_holdsLine : Mr := (⟨"GripEstatesModel", "holdsLine", "(II)Z"⟩, prog_14_method_66_code, 10, (some FieldType.boolean), 0, 0, 6)
def m_Mo_sumOf : Mr := (⟨"GripEstatesModel", "sumOf", "(II)I"⟩, prog_14_method_67_code, 5, (some FieldType.int), 0, 0, 7)
def m_Mo_gripsOf : Mr := (⟨"GripEstatesModel", "gripsOf", "(I)I"⟩, prog_14_method_68_code, 2, (some FieldType.int), 0, 0, 8)
def m_Mo_failsOf : Mr := (⟨"GripEstatesModel", "failsOf", "(I)I"⟩, prog_14_method_69_code, 2, (some FieldType.int), 0, 0, 8)
def m_Mo_estateOf : Mr := (⟨"GripEstatesModel", "estateOf", "(I)I"⟩, prog_14_method_78_code, 3, (some FieldType.int), 0, 0, 5)
def m_Mo_has : Mr := (⟨"GripEstatesModel", "has", "(II)Z"⟩, prog_14_method_4_code, 2, (some FieldType.boolean), 0, 0, 0)
def m_Mo_worthOf : Mr := (⟨"GripEstatesModel", "worthOf", "(I)I"⟩, prog_14_method_26_code, 4, (some FieldType.int), 0, 0, 2)
def m_Mo_lostOf : Mr := (⟨"GripEstatesModel", "lostOf", "(I)I"⟩, prog_14_method_79_code, 2, (some FieldType.int), 0, 0, 6)
def m_Mo_lineOf : Mr := (⟨"GripEstatesModel", "lineOf", "(I)I"⟩, prog_14_method_64_code, 5, (some FieldType.int), 0, 0, 2)
def m_Mo_hangsOn : Mr := (⟨"GripEstatesModel", "hangsOn", "(I)I"⟩, prog_14_method_80_code, 4, (some FieldType.int), 0, 0, 5)
def m_Mo_canHold : Mr := (⟨"GripEstatesModel", "canHold", "(II)Z"⟩, prog_14_method_81_code, 3, (some FieldType.boolean), 0, 0, 9)
def m_Mo_hopedOf : Mr := (⟨"GripEstatesModel", "hopedOf", "(I)I"⟩, prog_14_method_82_code, 5, (some FieldType.int), 0, 0, 10)
def m_Mo_likesMore : Mr := (⟨"GripEstatesModel", "likesMore", "(III)Z"⟩, prog_14_method_83_code, 6, (some FieldType.boolean), 0, 0, 10)
def m_Mo_comeRound : Mr := (⟨"GripEstatesModel", "comeRound", "(I)I"⟩, prog_14_method_84_code, 6, (some FieldType.int), 0, 0, 11)
def m_Mo_coreOf : Mr := (⟨"GripEstatesModel", "coreOf", "(I)I"⟩, prog_14_method_85_code, 5, (some FieldType.int), 0, 0, 12)
def m_Mo_worthOfAll : Mr := (⟨"GripEstatesModel", "worthOfAll", "()I"⟩, prog_14_method_86_code, 1, (some FieldType.int), 0, 0, 3)
def m_Mo_person : Mr := (⟨"GripEstatesModel", "person", "(II)I"⟩, prog_14_method_87_code, 3, (some FieldType.int), 0, 0, 13)
def m_Mo_noThing : Mr := (⟨"GripEstatesModel", "noThing", "(I)Z"⟩, prog_14_method_19_code, 2, (some FieldType.boolean), 0, 0, 1)
def m_Mo_thing : Mr := (⟨"GripEstatesModel", "thing", "(II)I"⟩, prog_14_method_88_code, 3, (some FieldType.int), 0, 0, 2)
def m_Mo_noBoth : Mr := (⟨"GripEstatesModel", "noBoth", "(II)Z"⟩, prog_14_method_89_code, 3, (some FieldType.boolean), 0, 0, 2)
def m_Mo_shuts : Mr := (⟨"GripEstatesModel", "shuts", "(II)I"⟩, prog_14_method_90_code, 4, (some FieldType.int), 0, 0, 10)
def m_Mo_remembers : Mr := (⟨"GripEstatesModel", "remembers", "()V"⟩, prog_14_method_8_code, 2, none, 0, 0, 0)
def m_Mo_isTold : Mr := (⟨"GripEstatesModel", "isTold", "(III)V"⟩, prog_14_method_70_code, 5, none, 0, 0, 2)
def m_Mo_allLetGo : Mr := (⟨"GripEstatesModel", "allLetGo", "()V"⟩, prog_14_method_71_code, 3, none, 0, 0, 9)
def m_Mo_drawn : Mr := (⟨"GripEstatesModel", "drawn", "(I)I"⟩, prog_14_method_28_code, 2, (some FieldType.int), 0, 0, 0)
def m_JI_numberOfTrailingZeros : Mr := (⟨"java/lang/Integer", "numberOfTrailingZeros", "(I)I"⟩, prog_24_method_48_code, 2, (some FieldType.int), 0, 0, 0)
def m_Mo_nthOf : Mr := (⟨"GripEstatesModel", "nthOf", "(II)I"⟩, prog_14_method_72_code, 4, (some FieldType.int), 0, 0, 1)
def m_Mo_allFeel : Mr := (⟨"GripEstatesModel", "allFeel", "()V"⟩, prog_14_method_73_code, 5, none, 0, 0, 9)
def m_Mo_dies : Mr := (⟨"GripEstatesModel", "dies", "(I)V"⟩, prog_14_method_74_code, 7, none, 0, 0, 5)
def m_Mo_someDie : Mr := (⟨"GripEstatesModel", "someDie", "()I"⟩, prog_14_method_75_code, 3, (some FieldType.int), 0, 0, 9)
def m_Mo_oneNight : Mr := (⟨"GripEstatesModel", "oneNight", "(Z)I"⟩, prog_14_method_76_code, 3, (some FieldType.int), 0, 0, 10)
def m_Mo_goesOn : Mr := (⟨"GripEstatesModel", "goesOn", "(IZ)I"⟩, prog_14_method_77_code, 5, (some FieldType.int), 0, 0, 11)
def m_Mo_nights : Mr := (⟨"GripEstatesModel", "nights", "(I)I"⟩, prog_14_method_91_code, 2, (some FieldType.int), 0, 0, 12)
def m_Mo_isFree : Mr := (⟨"GripEstatesModel", "isFree", "(I)Z"⟩, prog_14_method_92_code, 2, (some FieldType.boolean), 0, 0, 2)
def m_Mo_lay : Mr := (⟨"GripEstatesModel", "lay", "(II)I"⟩, prog_14_method_93_code, 3, (some FieldType.int), 0, 0, 4)
def m_Mo_isPutBy : Mr := (⟨"GripEstatesModel", "isPutBy", "(I)I"⟩, prog_14_method_94_code, 3, (some FieldType.int), 0, 0, 2)
def m_Mo_clear : Mr := (⟨"GripEstatesModel", "clear", "(I)I"⟩, prog_14_method_95_code, 2, (some FieldType.int), 0, 0, 3)
def m_Mo_wake : Mr := (⟨"GripEstatesModel", "wake", "(I)I"⟩, prog_14_method_96_code, 3, (some FieldType.int), 0, 0, 10)
def m_Mo_open : Mr := (⟨"GripEstatesModel", "open", "(I)I"⟩, prog_14_method_97_code, 3, (some FieldType.int), 0, 0, 4)
def m_Mo_holds : Mr := (⟨"GripEstatesModel", "holds", "(II)V"⟩, prog_14_method_98_code, 3, none, 0, 0, 2)
def m_Mo_swap : Mr := (⟨"GripEstatesModel", "swap", "(II)I"⟩, prog_14_method_99_code, 5, (some FieldType.int), 0, 0, 4)
def m_Mo_isNow : Mr := (⟨"GripEstatesModel", "isNow", "(II)I"⟩, prog_14_method_100_code, 4, (some FieldType.int), 0, 0, 1)
def m_Mo_heir : Mr := (⟨"GripEstatesModel", "heir", "(II)I"⟩, prog_14_method_101_code, 3, (some FieldType.int), 0, 0, 2)
def m_Mo_tie : Mr := (⟨"GripEstatesModel", "tie", "(IZ)Z"⟩, prog_14_method_102_code, 4, (some FieldType.boolean), 0, 0, 2)
def m_Mo_born : Mr := (⟨"GripEstatesModel", "born", "(I)I"⟩, prog_14_method_103_code, 2, (some FieldType.int), 0, 0, 2)
def m_Mo_give : Mr := (⟨"GripEstatesModel", "give", "(II)I"⟩, prog_14_method_104_code, 3, (some FieldType.int), 0, 0, 3)
def m_Mo_sizeOf : Mr := (⟨"GripEstatesModel", "sizeOf", "(I)I"⟩, prog_14_method_105_code, 4, (some FieldType.int), 0, 0, 2)
def m_Mo_isBetter : Mr := (⟨"GripEstatesModel", "isBetter", "(II)Z"⟩, prog_14_method_106_code, 4, (some FieldType.boolean), 0, 0, 3)
def m_Mo_hoard : Mr := (⟨"GripEstatesModel", "hoard", "(IIZ)I"⟩, prog_14_method_107_code, 7, (some FieldType.int), 0, 0, 4)
def m_Mo_round : Mr := (⟨"GripEstatesModel", "round", "()I"⟩, prog_14_method_108_code, 3, (some FieldType.int), 0, 0, 3)
def m_Mo_escheat : Mr := (⟨"GripEstatesModel", "escheat", "()I"⟩, prog_14_method_109_code, 3, (some FieldType.int), 0, 0, 5)
def m_Mo_areWatched : Mr := (⟨"GripEstatesModel", "areWatched", "(I)Z"⟩, prog_14_method_110_code, 4, (some FieldType.boolean), 0, 0, 5)
def m_Mo_watch : Mr := (⟨"GripEstatesModel", "watch", "()I"⟩, prog_14_method_111_code, 4, (some FieldType.int), 0, 0, 6)
def m_Mo_putAt : Mr := (⟨"GripEstatesModel", "putAt", "(II)I"⟩, prog_14_method_112_code, 2, (some FieldType.int), 0, 0, 0)
def m_Mo_putIf : Mr := (⟨"GripEstatesModel", "putIf", "(III)I"⟩, prog_14_method_113_code, 4, (some FieldType.int), 0, 0, 3)
def m_Mo_put : Mr := (⟨"GripEstatesModel", "put", "(I)I"⟩, prog_14_method_114_code, 7, (some FieldType.int), 0, 0, 9)
def m_Mo_isHeld : Mr := (⟨"GripEstatesModel", "isHeld", "()Z"⟩, prog_14_method_115_code, 3, (some FieldType.boolean), 0, 0, 1)
def m_Mo_whatOf : Mr := (⟨"GripEstatesModel", "whatOf", "(II)I"⟩, prog_14_method_116_code, 3, (some FieldType.int), 0, 0, 2)
def m_Mo_wrongRows : Mr := (⟨"GripEstatesModel", "wrongRows", "(I)I"⟩, prog_14_method_117_code, 4, (some FieldType.int), 0, 0, 3)
def m_Mo_thatFit : Mr := (⟨"GripEstatesModel", "thatFit", "()I"⟩, prog_14_method_118_code, 3, (some FieldType.int), 0, 0, 4)
def m_Mo_held : Mr := (⟨"GripEstatesModel", "held", "()I"⟩, prog_14_method_119_code, 1, (some FieldType.int), 0, 0, 5)
def m_Mo_likely : Mr := (⟨"GripEstatesModel", "likely", "()I"⟩, prog_14_method_120_code, 5, (some FieldType.int), 0, 0, 4)
def m_Mo_partOf : Mr := (⟨"GripEstatesModel", "partOf", "(II)I"⟩, prog_14_method_121_code, 7, (some FieldType.int), 0, 0, 3)
def m_Mo_ask : Mr := (⟨"GripEstatesModel", "ask", "()I"⟩, prog_14_method_122_code, 6, (some FieldType.int), 0, 0, 5)
def m_Mo_isStrong : Mr := (⟨"GripEstatesModel", "isStrong", "()Z"⟩, prog_14_method_123_code, 3, (some FieldType.boolean), 0, 0, 1)
def m_Mo_wrongTries : Mr := (⟨"GripEstatesModel", "wrongTries", "(I)I"⟩, prog_14_method_124_code, 4, (some FieldType.int), 0, 0, 0)
def m_Mo_manyStrong : Mr := (⟨"GripEstatesModel", "manyStrong", "(I)I"⟩, prog_14_method_125_code, 4, (some FieldType.int), 0, 0, 1)
def m_Mo_strong : Mr := (⟨"GripEstatesModel", "strong", "(Z)I"⟩, prog_14_method_126_code, 6, (some FieldType.int), 0, 0, 2)
def m_Mo_test : Mr := (⟨"GripEstatesModel", "test", "()I"⟩, prog_14_method_127_code, 6, (some FieldType.int), 0, 0, 2)
def m_Mo_isFingers : Mr := (⟨"GripEstatesModel", "isFingers", "(I)Z"⟩, prog_14_method_128_code, 4, (some FieldType.boolean), 0, 0, 1)
def m_Mo_laysWins : Mr := (⟨"GripEstatesModel", "laysWins", "()V"⟩, prog_14_method_129_code, 4, none, 0, 0, 0)
def m_Mo_fingers : Mr := (⟨"GripEstatesModel", "fingers", "(I)Z"⟩, prog_14_method_130_code, 2, (some FieldType.boolean), 0, 0, 2)
def m_Mo_opens : Mr := (⟨"GripEstatesModel", "opens", "(I)I"⟩, prog_14_method_131_code, 4, (some FieldType.int), 0, 0, 2)
def m_Mo_firstOf : Mr := (⟨"GripEstatesModel", "firstOf", "(I)I"⟩, prog_14_method_132_code, 1, (some FieldType.int), 0, 0, 1)
def m_Mo_canPair : Mr := (⟨"GripEstatesModel", "canPair", "(II)Z"⟩, prog_14_method_133_code, 3, (some FieldType.boolean), 0, 0, 3)
def m_Mo_pairedBy : Mr := (⟨"GripEstatesModel", "pairedBy", "(II)I"⟩, prog_14_method_134_code, 5, (some FieldType.int), 0, 0, 4)
def m_Mo_laysPairs : Mr := (⟨"GripEstatesModel", "laysPairs", "()V"⟩, prog_14_method_135_code, 4, none, 0, 0, 5)
def m_Mo_pairs : Mr := (⟨"GripEstatesModel", "pairs", "(I)I"⟩, prog_14_method_136_code, 7, (some FieldType.int), 0, 0, 6)
def m_Mo_heirHas : Mr := (⟨"GripEstatesModel", "heirHas", "(III)I"⟩, prog_14_method_137_code, 4, (some FieldType.int), 0, 0, 7)
def m_Mo_nurseHas : Mr := (⟨"GripEstatesModel", "nurseHas", "(III)I"⟩, prog_14_method_138_code, 4, (some FieldType.int), 0, 0, 2)
def m_Mo_rests : Mr := (⟨"GripEstatesModel", "rests", "(I)I"⟩, prog_14_method_139_code, 5, (some FieldType.int), 0, 0, 8)
def m_Mo_odds : Mr := (⟨"GripEstatesModel", "odds", "(I)I"⟩, prog_14_method_140_code, 5, (some FieldType.int), 0, 0, 9)
def m_Mo_amountOf : Mr := (⟨"GripEstatesModel", "amountOf", "(II)I"⟩, prog_14_method_141_code, 3, (some FieldType.int), 0, 0, 9)
def m_Mo_most : Mr := (⟨"GripEstatesModel", "most", "(I)I"⟩, prog_14_method_142_code, 4, (some FieldType.int), 0, 0, 10)
def m_Mo_living : Mr := (⟨"GripEstatesModel", "living", "()I"⟩, prog_14_method_143_code, 1, (some FieldType.int), 0, 0, 4)
def m_Mo_idle : Mr := (⟨"GripEstatesModel", "idle", "()I"⟩, prog_14_method_144_code, 3, (some FieldType.int), 0, 0, 4)
def m_Mo_crown : Mr := (⟨"GripEstatesModel", "crown", "()I"⟩, prog_14_method_145_code, 1, (some FieldType.int), 0, 0, 3)
def m_Mo_wealth : Mr := (⟨"GripEstatesModel", "wealth", "()I"⟩, prog_14_method_146_code, 1, (some FieldType.int), 0, 0, 3)
def m_Mo_twins : Mr := (⟨"GripEstatesModel", "twins", "()I"⟩, prog_14_method_147_code, 4, (some FieldType.int), 0, 0, 2)
def m_Mo_noNights : Mr := (⟨"GripEstatesModel", "noNights", "(I)Z"⟩, prog_14_method_148_code, 1, (some FieldType.boolean), 0, 0, 1)
def m_Mo_keepsAll : Mr := (⟨"GripEstatesModel", "keepsAll", "()V"⟩, prog_14_method_10_code, 2, none, 0, 0, 0)
def m_Mo_bringsBack : Mr := (⟨"GripEstatesModel", "bringsBack", "()V"⟩, prog_14_method_11_code, 2, none, 0, 0, 0)
def m_Mo_ahead : Mr := (⟨"GripEstatesModel", "ahead", "(II)I"⟩, prog_14_method_149_code, 4, (some FieldType.int), 0, 0, 12)
def m_Mo_trial : Mr := (⟨"GripEstatesModel", "trial", "(IZ)I"⟩, prog_14_method_150_code, 4, (some FieldType.int), 0, 0, 12)
def m_Mo_span : Mr := (⟨"GripEstatesModel", "span", "(IZ)I"⟩, prog_14_method_151_code, 6, (some FieldType.int), 0, 0, 12)
def m_Mo_ofLog : Mr := (⟨"GripEstatesModel", "ofLog", "(II)I"⟩, prog_14_method_152_code, 3, (some FieldType.int), 0, 0, 0)
def m_Mo_led : Mr := (⟨"GripEstatesModel", "led", "(IZ)I"⟩, prog_14_method_153_code, 6, (some FieldType.int), 0, 0, 2)
def m_Mo_log : Mr := (⟨"GripEstatesModel", "log", "(II)I"⟩, prog_14_method_154_code, 3, (some FieldType.int), 0, 0, 1)
def m_Mo_seed : Mr := (⟨"GripEstatesModel", "seed", "(I)I"⟩, prog_14_method_155_code, 3, (some FieldType.int), 0, 0, 0)
def m_Mo_manyIn : Mr := (⟨"GripEstatesModel", "manyIn", "(I)I"⟩, prog_14_method_156_code, 4, (some FieldType.int), 0, 0, 2)
def m_Mo_count : Mr := (⟨"GripEstatesModel", "count", "(I)I"⟩, prog_14_method_157_code, 2, (some FieldType.int), 0, 0, 4)
end
section
theorem k_Ta_init : cOK m_Ta_init 0 2 := ⟨List.mem_filter.mpr ⟨List.mem_of_getElem? (i := 175) (by decide +kernel), rfl⟩, wd_ok (k := 135) (by decide +kernel), by decide +kernel, by decide, fun h => absurd h (by decide), fun h => absurd h (by decide), fun _ => ⟨wd_ok (k := 174) (by decide +kernel), rfl, rfl⟩⟩
theorem k_Td_init : cOK m_Td_init 0 2 := ⟨List.mem_filter.mpr ⟨List.mem_of_getElem? (i := 195) (by decide +kernel), rfl⟩, wd_ok (k := 136) (by decide +kernel), by decide +kernel, by decide, fun h => absurd h (by decide), fun h => absurd h (by decide), fun _ => ⟨wd_ok (k := 194) (by decide +kernel), rfl, rfl⟩⟩
theorem k_Ma_init : cOK m_Ma_init 0 2 := ⟨List.mem_filter.mpr ⟨List.mem_of_getElem? (i := 206) (by decide +kernel), rfl⟩, wd_ok (k := 137) (by decide +kernel), by decide +kernel, by decide, fun h => absurd h (by decide), fun h => absurd h (by decide), fun _ => ⟨wd_ok (k := 205) (by decide +kernel), rfl, rfl⟩⟩
theorem k_Re_init : cOK m_Re_init 0 2 := ⟨List.mem_filter.mpr ⟨List.mem_of_getElem? (i := 230) (by decide +kernel), rfl⟩, wd_ok (k := 138) (by decide +kernel), by decide +kernel, by decide, fun h => absurd h (by decide), fun h => absurd h (by decide), fun _ => ⟨wd_ok (k := 229) (by decide +kernel), rfl, rfl⟩⟩
theorem k_Vr_init : cOK m_Vr_init 1 2 := ⟨List.mem_filter.mpr ⟨List.mem_of_getElem? (i := 259) (by decide +kernel), rfl⟩, wd_ok (k := 139) (by decide +kernel), by decide +kernel, by decide, fun h => absurd h (by decide), fun h => absurd h (by decide), fun _ => ⟨wd_ok (k := 258) (by decide +kernel), rfl, rfl⟩⟩
theorem k_Lr_init : cOK m_Lr_init 1 2 := ⟨List.mem_filter.mpr ⟨List.mem_of_getElem? (i := 269) (by decide +kernel), rfl⟩, wd_ok (k := 140) (by decide +kernel), by decide +kernel, by decide, fun h => absurd h (by decide), fun h => absurd h (by decide), fun _ => ⟨wd_ok (k := 268) (by decide +kernel), rfl, rfl⟩⟩
theorem k_La_init : cOK m_La_init 0 2 := ⟨List.mem_filter.mpr ⟨List.mem_of_getElem? (i := 297) (by decide +kernel), rfl⟩, wd_ok (k := 141) (by decide +kernel), by decide +kernel, by decide, fun h => absurd h (by decide), fun h => absurd h (by decide), fun _ => ⟨wd_ok (k := 296) (by decide +kernel), rfl, rfl⟩⟩
theorem k_Lo_init : cOK m_Lo_init 0 2 := ⟨List.mem_filter.mpr ⟨List.mem_of_getElem? (i := 325) (by decide +kernel), rfl⟩, wd_ok (k := 143) (by decide +kernel), by decide +kernel, by decide, fun h => absurd h (by decide), fun h => absurd h (by decide), fun _ => ⟨wd_ok (k := 324) (by decide +kernel), rfl, rfl⟩⟩
theorem k_Va_init : cOK m_Va_init 1 2 := ⟨List.mem_filter.mpr ⟨List.mem_of_getElem? (i := 319) (by decide +kernel), rfl⟩, wd_ok (k := 142) (by decide +kernel), by decide +kernel, by decide, fun h => absurd h (by decide), fun h => absurd h (by decide), fun _ => ⟨wd_ok (k := 318) (by decide +kernel), rfl, rfl⟩⟩
theorem k_Gr_init : cOK m_Gr_init 0 2 := ⟨List.mem_filter.mpr ⟨List.mem_of_getElem? (i := 167) (by decide +kernel), rfl⟩, wd_ok (k := 134) (by decide +kernel), by decide +kernel, by decide, fun h => absurd h (by decide), fun h => absurd h (by decide), fun _ => ⟨wd_ok (k := 166) (by decide +kernel), rfl, rfl⟩⟩
theorem k_Ta_hasRoom : cOK m_Ta_hasRoom 0 1 := ⟨List.mem_filter.mpr ⟨List.mem_of_getElem? (i := 488) (by decide +kernel), rfl⟩, wd_ok (k := 135) (by decide +kernel), by decide +kernel, by decide, fun h => absurd h (by decide), fun _ => ⟨wd_ok (k := 486) (by decide +kernel), wd_ok (k := 487) (by decide +kernel)⟩, fun h => absurd h (by decide)⟩
theorem k_Ta_add : cOK m_Ta_add 1 1 := ⟨List.mem_filter.mpr ⟨List.mem_of_getElem? (i := 492) (by decide +kernel), rfl⟩, wd_ok (k := 135) (by decide +kernel), by decide +kernel, by decide, fun h => absurd h (by decide), fun _ => ⟨wd_ok (k := 490) (by decide +kernel), wd_ok (k := 491) (by decide +kernel)⟩, fun h => absurd h (by decide)⟩
theorem k_Gr_feed : cOK m_Gr_feed 5 1 := ⟨List.mem_filter.mpr ⟨List.mem_of_getElem? (i := 484) (by decide +kernel), rfl⟩, wd_ok (k := 134) (by decide +kernel), by decide +kernel, by decide, fun h => absurd h (by decide), fun _ => ⟨wd_ok (k := 482) (by decide +kernel), wd_ok (k := 483) (by decide +kernel)⟩, fun h => absurd h (by decide)⟩
theorem k_Ta_cut : cOK m_Ta_cut 1 1 := ⟨List.mem_filter.mpr ⟨List.mem_of_getElem? (i := 500) (by decide +kernel), rfl⟩, wd_ok (k := 135) (by decide +kernel), by decide +kernel, by decide, fun h => absurd h (by decide), fun _ => ⟨wd_ok (k := 498) (by decide +kernel), wd_ok (k := 499) (by decide +kernel)⟩, fun h => absurd h (by decide)⟩
theorem k_Gr_end : cOK m_Gr_end 1 1 := ⟨List.mem_filter.mpr ⟨List.mem_of_getElem? (i := 496) (by decide +kernel), rfl⟩, wd_ok (k := 134) (by decide +kernel), by decide +kernel, by decide, fun h => absurd h (by decide), fun _ => ⟨wd_ok (k := 494) (by decide +kernel), wd_ok (k := 495) (by decide +kernel)⟩, fun h => absurd h (by decide)⟩
theorem k_Gr_fault : cOK m_Gr_fault 0 1 := ⟨List.mem_filter.mpr ⟨List.mem_of_getElem? (i := 504) (by decide +kernel), rfl⟩, wd_ok (k := 134) (by decide +kernel), by decide +kernel, by decide, fun h => absurd h (by decide), fun _ => ⟨wd_ok (k := 502) (by decide +kernel), wd_ok (k := 503) (by decide +kernel)⟩, fun h => absurd h (by decide)⟩
theorem k_Es_line : cOK m_Es_line 2 0 := ⟨List.mem_filter.mpr ⟨List.mem_of_getElem? (i := 511) (by decide +kernel), rfl⟩, wd_ok (k := 160) (by decide +kernel), by decide +kernel, by decide, fun _ => wd_ok (k := 510) (by decide +kernel), fun h => absurd h (by decide), fun h => absurd h (by decide)⟩
theorem k_Gr_round : cOK m_Gr_round 0 1 := ⟨List.mem_filter.mpr ⟨List.mem_of_getElem? (i := 508) (by decide +kernel), rfl⟩, wd_ok (k := 134) (by decide +kernel), by decide +kernel, by decide, fun h => absurd h (by decide), fun _ => ⟨wd_ok (k := 506) (by decide +kernel), wd_ok (k := 507) (by decide +kernel)⟩, fun h => absurd h (by decide)⟩
theorem k_Va_isLiving : cOK m_Va_isLiving 1 1 := ⟨List.mem_filter.mpr ⟨List.mem_of_getElem? (i := 519) (by decide +kernel), rfl⟩, wd_ok (k := 142) (by decide +kernel), by decide +kernel, by decide, fun h => absurd h (by decide), fun _ => ⟨wd_ok (k := 517) (by decide +kernel), wd_ok (k := 518) (by decide +kernel)⟩, fun h => absurd h (by decide)⟩
theorem k_Va_successor : cOK m_Va_successor 1 1 := ⟨List.mem_filter.mpr ⟨List.mem_of_getElem? (i := 523) (by decide +kernel), rfl⟩, wd_ok (k := 142) (by decide +kernel), by decide +kernel, by decide, fun h => absurd h (by decide), fun _ => ⟨wd_ok (k := 521) (by decide +kernel), wd_ok (k := 522) (by decide +kernel)⟩, fun h => absurd h (by decide)⟩
theorem k_Gr_escheat : cOK m_Gr_escheat 0 1 := ⟨List.mem_filter.mpr ⟨List.mem_of_getElem? (i := 515) (by decide +kernel), rfl⟩, wd_ok (k := 134) (by decide +kernel), by decide +kernel, by decide, fun h => absurd h (by decide), fun _ => ⟨wd_ok (k := 513) (by decide +kernel), wd_ok (k := 514) (by decide +kernel)⟩, fun h => absurd h (by decide)⟩
theorem k_JI_bitCount : cOK m_JI_bitCount 1 0 := ⟨List.mem_filter.mpr ⟨List.mem_of_getElem? (i := 533) (by decide +kernel), rfl⟩, wd_ok (k := 158) (by decide +kernel), by decide +kernel, by decide, fun _ => wd_ok (k := 532) (by decide +kernel), fun h => absurd h (by decide), fun h => absurd h (by decide)⟩
theorem k_Es_allWatched : cOK m_Es_allWatched 2 0 := ⟨List.mem_filter.mpr ⟨List.mem_of_getElem? (i := 539) (by decide +kernel), rfl⟩, wd_ok (k := 160) (by decide +kernel), by decide +kernel, by decide, fun _ => wd_ok (k := 538) (by decide +kernel), fun h => absurd h (by decide), fun h => absurd h (by decide)⟩
theorem k_Es_fewestWatchers : cOK m_Es_fewestWatchers 1 0 := ⟨List.mem_filter.mpr ⟨List.mem_of_getElem? (i := 530) (by decide +kernel), rfl⟩, wd_ok (k := 160) (by decide +kernel), by decide +kernel, by decide, fun _ => wd_ok (k := 529) (by decide +kernel), fun h => absurd h (by decide), fun h => absurd h (by decide)⟩
theorem k_Gr_watch : cOK m_Gr_watch 0 1 := ⟨List.mem_filter.mpr ⟨List.mem_of_getElem? (i := 527) (by decide +kernel), rfl⟩, wd_ok (k := 134) (by decide +kernel), by decide +kernel, by decide, fun h => absurd h (by decide), fun _ => ⟨wd_ok (k := 525) (by decide +kernel), wd_ok (k := 526) (by decide +kernel)⟩, fun h => absurd h (by decide)⟩
theorem k_Gr_living : cOK m_Gr_living 0 1 := ⟨List.mem_filter.mpr ⟨List.mem_of_getElem? (i := 545) (by decide +kernel), rfl⟩, wd_ok (k := 134) (by decide +kernel), by decide +kernel, by decide, fun h => absurd h (by decide), fun _ => ⟨wd_ok (k := 543) (by decide +kernel), wd_ok (k := 544) (by decide +kernel)⟩, fun h => absurd h (by decide)⟩
theorem k_Va_holding : cOK m_Va_holding 1 1 := ⟨List.mem_filter.mpr ⟨List.mem_of_getElem? (i := 553) (by decide +kernel), rfl⟩, wd_ok (k := 142) (by decide +kernel), by decide +kernel, by decide, fun h => absurd h (by decide), fun _ => ⟨wd_ok (k := 551) (by decide +kernel), wd_ok (k := 552) (by decide +kernel)⟩, fun h => absurd h (by decide)⟩
theorem k_Gr_idle : cOK m_Gr_idle 0 1 := ⟨List.mem_filter.mpr ⟨List.mem_of_getElem? (i := 549) (by decide +kernel), rfl⟩, wd_ok (k := 134) (by decide +kernel), by decide +kernel, by decide, fun h => absurd h (by decide), fun _ => ⟨wd_ok (k := 547) (by decide +kernel), wd_ok (k := 548) (by decide +kernel)⟩, fun h => absurd h (by decide)⟩
theorem k_Va_ownedBy : cOK m_Va_ownedBy 1 1 := ⟨List.mem_filter.mpr ⟨List.mem_of_getElem? (i := 561) (by decide +kernel), rfl⟩, wd_ok (k := 142) (by decide +kernel), by decide +kernel, by decide, fun h => absurd h (by decide), fun _ => ⟨wd_ok (k := 559) (by decide +kernel), wd_ok (k := 560) (by decide +kernel)⟩, fun h => absurd h (by decide)⟩
theorem k_Gr_crown : cOK m_Gr_crown 0 1 := ⟨List.mem_filter.mpr ⟨List.mem_of_getElem? (i := 557) (by decide +kernel), rfl⟩, wd_ok (k := 134) (by decide +kernel), by decide +kernel, by decide, fun h => absurd h (by decide), fun _ => ⟨wd_ok (k := 555) (by decide +kernel), wd_ok (k := 556) (by decide +kernel)⟩, fun h => absurd h (by decide)⟩
theorem k_Va_worthOf : cOK m_Va_worthOf 1 1 := ⟨List.mem_filter.mpr ⟨List.mem_of_getElem? (i := 574) (by decide +kernel), rfl⟩, wd_ok (k := 142) (by decide +kernel), by decide +kernel, by decide, fun h => absurd h (by decide), fun _ => ⟨wd_ok (k := 572) (by decide +kernel), wd_ok (k := 573) (by decide +kernel)⟩, fun h => absurd h (by decide)⟩
theorem k_Va_crownWealth : cOK m_Va_crownWealth 0 1 := ⟨List.mem_filter.mpr ⟨List.mem_of_getElem? (i := 569) (by decide +kernel), rfl⟩, wd_ok (k := 142) (by decide +kernel), by decide +kernel, by decide, fun h => absurd h (by decide), fun _ => ⟨wd_ok (k := 567) (by decide +kernel), wd_ok (k := 568) (by decide +kernel)⟩, fun h => absurd h (by decide)⟩
theorem k_Gr_wealth : cOK m_Gr_wealth 0 1 := ⟨List.mem_filter.mpr ⟨List.mem_of_getElem? (i := 565) (by decide +kernel), rfl⟩, wd_ok (k := 134) (by decide +kernel), by decide +kernel, by decide, fun h => absurd h (by decide), fun _ => ⟨wd_ok (k := 563) (by decide +kernel), wd_ok (k := 564) (by decide +kernel)⟩, fun h => absurd h (by decide)⟩
theorem k_Gr_twins : cOK m_Gr_twins 0 1 := ⟨List.mem_filter.mpr ⟨List.mem_of_getElem? (i := 578) (by decide +kernel), rfl⟩, wd_ok (k := 134) (by decide +kernel), by decide +kernel, by decide, fun h => absurd h (by decide), fun _ => ⟨wd_ok (k := 576) (by decide +kernel), wd_ok (k := 577) (by decide +kernel)⟩, fun h => absurd h (by decide)⟩
theorem k_Gr_seed : cOK m_Gr_seed 1 1 := ⟨List.mem_filter.mpr ⟨List.mem_of_getElem? (i := 582) (by decide +kernel), rfl⟩, wd_ok (k := 134) (by decide +kernel), by decide +kernel, by decide, fun h => absurd h (by decide), fun _ => ⟨wd_ok (k := 580) (by decide +kernel), wd_ok (k := 581) (by decide +kernel)⟩, fun h => absurd h (by decide)⟩
theorem k_Lo_copyFrom : cOK m_Lo_copyFrom 1 1 := ⟨List.mem_filter.mpr ⟨List.mem_of_getElem? (i := 597) (by decide +kernel), rfl⟩, wd_ok (k := 143) (by decide +kernel), by decide +kernel, by decide, fun h => absurd h (by decide), fun _ => ⟨wd_ok (k := 595) (by decide +kernel), wd_ok (k := 596) (by decide +kernel)⟩, fun h => absurd h (by decide)⟩
theorem k_Va_copyFrom : cOK m_Va_copyFrom 1 1 := ⟨List.mem_filter.mpr ⟨List.mem_of_getElem? (i := 590) (by decide +kernel), rfl⟩, wd_ok (k := 142) (by decide +kernel), by decide +kernel, by decide, fun h => absurd h (by decide), fun _ => ⟨wd_ok (k := 588) (by decide +kernel), wd_ok (k := 589) (by decide +kernel)⟩, fun h => absurd h (by decide)⟩
theorem k_Gr_undo : cOK m_Gr_undo 0 1 := ⟨List.mem_filter.mpr ⟨List.mem_of_getElem? (i := 586) (by decide +kernel), rfl⟩, wd_ok (k := 134) (by decide +kernel), by decide +kernel, by decide, fun h => absurd h (by decide), fun _ => ⟨wd_ok (k := 584) (by decide +kernel), wd_ok (k := 585) (by decide +kernel)⟩, fun h => absurd h (by decide)⟩
theorem k_Gr_image : cOK m_Gr_image 0 1 := ⟨List.mem_filter.mpr ⟨List.mem_of_getElem? (i := 602) (by decide +kernel), rfl⟩, wd_ok (k := 134) (by decide +kernel), by decide +kernel, by decide, fun h => absurd h (by decide), fun _ => ⟨wd_ok (k := 600) (by decide +kernel), wd_ok (k := 601) (by decide +kernel)⟩, fun h => absurd h (by decide)⟩
theorem k_Gr_forgetActs : cOK m_Gr_forgetActs 0 1 := ⟨List.mem_filter.mpr ⟨List.mem_of_getElem? (i := 610) (by decide +kernel), rfl⟩, wd_ok (k := 134) (by decide +kernel), by decide +kernel, by decide, fun h => absurd h (by decide), fun _ => ⟨wd_ok (k := 609) (by decide +kernel), wd_ok (k := 0) (by decide +kernel)⟩, fun h => absurd h (by decide)⟩
theorem k_Gr_back : cOK m_Gr_back 0 1 := ⟨List.mem_filter.mpr ⟨List.mem_of_getElem? (i := 606) (by decide +kernel), rfl⟩, wd_ok (k := 134) (by decide +kernel), by decide +kernel, by decide, fun h => absurd h (by decide), fun _ => ⟨wd_ok (k := 604) (by decide +kernel), wd_ok (k := 605) (by decide +kernel)⟩, fun h => absurd h (by decide)⟩
theorem k_Va_allThings : cOK m_Va_allThings 0 1 := ⟨List.mem_filter.mpr ⟨List.mem_of_getElem? (i := 618) (by decide +kernel), rfl⟩, wd_ok (k := 142) (by decide +kernel), by decide +kernel, by decide, fun h => absurd h (by decide), fun _ => ⟨wd_ok (k := 616) (by decide +kernel), wd_ok (k := 617) (by decide +kernel)⟩, fun h => absurd h (by decide)⟩
theorem k_Va_howManyIn : cOK m_Va_howManyIn 1 1 := ⟨List.mem_filter.mpr ⟨List.mem_of_getElem? (i := 623) (by decide +kernel), rfl⟩, wd_ok (k := 142) (by decide +kernel), by decide +kernel, by decide, fun h => absurd h (by decide), fun _ => ⟨wd_ok (k := 621) (by decide +kernel), wd_ok (k := 622) (by decide +kernel)⟩, fun h => absurd h (by decide)⟩
theorem k_Gr_count : cOK m_Gr_count 1 1 := ⟨List.mem_filter.mpr ⟨List.mem_of_getElem? (i := 614) (by decide +kernel), rfl⟩, wd_ok (k := 134) (by decide +kernel), by decide +kernel, by decide, fun h => absurd h (by decide), fun _ => ⟨wd_ok (k := 612) (by decide +kernel), wd_ok (k := 613) (by decide +kernel)⟩, fun h => absurd h (by decide)⟩
theorem k_Ta_useUp : cOK m_Ta_useUp 0 1 := ⟨List.mem_filter.mpr ⟨List.mem_of_getElem? (i := 636) (by decide +kernel), rfl⟩, wd_ok (k := 135) (by decide +kernel), by decide +kernel, by decide, fun h => absurd h (by decide), fun _ => ⟨wd_ok (k := 634) (by decide +kernel), wd_ok (k := 635) (by decide +kernel)⟩, fun h => absurd h (by decide)⟩
theorem k_Ta_at : cOK m_Ta_at 1 1 := ⟨List.mem_filter.mpr ⟨List.mem_of_getElem? (i := 651) (by decide +kernel), rfl⟩, wd_ok (k := 135) (by decide +kernel), by decide +kernel, by decide, fun h => absurd h (by decide), fun _ => ⟨wd_ok (k := 649) (by decide +kernel), wd_ok (k := 650) (by decide +kernel)⟩, fun h => absurd h (by decide)⟩
theorem k_Re_isLetter : cOK m_Re_isLetter 1 0 := ⟨List.mem_filter.mpr ⟨List.mem_of_getElem? (i := 654) (by decide +kernel), rfl⟩, wd_ok (k := 138) (by decide +kernel), by decide +kernel, by decide, fun _ => wd_ok (k := 653) (by decide +kernel), fun h => absurd h (by decide), fun h => absurd h (by decide)⟩
theorem k_Re_isDigit : cOK m_Re_isDigit 1 0 := ⟨List.mem_filter.mpr ⟨List.mem_of_getElem? (i := 657) (by decide +kernel), rfl⟩, wd_ok (k := 138) (by decide +kernel), by decide +kernel, by decide, fun _ => wd_ok (k := 656) (by decide +kernel), fun h => absurd h (by decide), fun h => absurd h (by decide)⟩
theorem k_Re_endOfRun : cOK m_Re_endOfRun 2 0 := ⟨List.mem_filter.mpr ⟨List.mem_of_getElem? (i := 647) (by decide +kernel), rfl⟩, wd_ok (k := 138) (by decide +kernel), by decide +kernel, by decide, fun _ => wd_ok (k := 646) (by decide +kernel), fun h => absurd h (by decide), fun h => absurd h (by decide)⟩
theorem k_JS_coder : cOK m_JS_coder 0 1 := ⟨List.mem_filter.mpr ⟨List.mem_of_getElem? (i := 681) (by decide +kernel), rfl⟩, wd_ok (k := 148) (by decide +kernel), by decide +kernel, by decide, fun h => absurd h (by decide), fun _ => ⟨wd_ok (k := 679) (by decide +kernel), wd_ok (k := 680) (by decide +kernel)⟩, fun h => absurd h (by decide)⟩
theorem k_JS_length : cOK m_JS_length 0 1 := ⟨List.mem_filter.mpr ⟨List.mem_of_getElem? (i := 677) (by decide +kernel), rfl⟩, wd_ok (k := 148) (by decide +kernel), by decide +kernel, by decide, fun h => absurd h (by decide), fun _ => ⟨wd_ok (k := 675) (by decide +kernel), wd_ok (k := 676) (by decide +kernel)⟩, fun h => absurd h (by decide)⟩
theorem k_JS_isLatin1 : cOK m_JS_isLatin1 0 1 := ⟨List.mem_filter.mpr ⟨List.mem_of_getElem? (i := 691) (by decide +kernel), rfl⟩, wd_ok (k := 148) (by decide +kernel), by decide +kernel, by decide, fun h => absurd h (by decide), fun _ => ⟨wd_ok (k := 689) (by decide +kernel), wd_ok (k := 690) (by decide +kernel)⟩, fun h => absurd h (by decide)⟩
theorem k_JP_checkIndex : cOK m_JP_checkIndex 3 0 := ⟨List.mem_filter.mpr ⟨List.mem_of_getElem? (i := 702) (by decide +kernel), rfl⟩, wd_ok (k := 150) (by decide +kernel), by decide +kernel, by decide, fun _ => wd_ok (k := 701) (by decide +kernel), fun h => absurd h (by decide), fun h => absurd h (by decide)⟩
theorem k_JS_checkIndex : cOK m_JS_checkIndex 2 0 := ⟨List.mem_filter.mpr ⟨List.mem_of_getElem? (i := 697) (by decide +kernel), rfl⟩, wd_ok (k := 148) (by decide +kernel), by decide +kernel, by decide, fun _ => wd_ok (k := 696) (by decide +kernel), fun h => absurd h (by decide), fun h => absurd h (by decide)⟩
theorem k_JL_charAt : cOK m_JL_charAt 2 0 := ⟨List.mem_filter.mpr ⟨List.mem_of_getElem? (i := 694) (by decide +kernel), rfl⟩, wd_ok (k := 149) (by decide +kernel), by decide +kernel, by decide, fun _ => wd_ok (k := 693) (by decide +kernel), fun h => absurd h (by decide), fun h => absurd h (by decide)⟩
theorem k_JS_charAt : cOK m_JS_charAt 1 1 := ⟨List.mem_filter.mpr ⟨List.mem_of_getElem? (i := 687) (by decide +kernel), rfl⟩, wd_ok (k := 148) (by decide +kernel), by decide +kernel, by decide, fun h => absurd h (by decide), fun _ => ⟨wd_ok (k := 685) (by decide +kernel), wd_ok (k := 686) (by decide +kernel)⟩, fun h => absurd h (by decide)⟩
theorem k_To_isAt : cOK m_To_isAt 3 1 := ⟨List.mem_filter.mpr ⟨List.mem_of_getElem? (i := 673) (by decide +kernel), rfl⟩, wd_ok (k := 147) (by decide +kernel), by decide +kernel, by decide, fun h => absurd h (by decide), fun _ => ⟨wd_ok (k := 671) (by decide +kernel), wd_ok (k := 2) (by decide +kernel)⟩, fun h => absurd h (by decide)⟩
theorem k_To_spelt : cOK m_To_spelt 3 0 := ⟨List.mem_filter.mpr ⟨List.mem_of_getElem? (i := 666) (by decide +kernel), rfl⟩, wd_ok (k := 147) (by decide +kernel), by decide +kernel, by decide, fun _ => wd_ok (k := 665) (by decide +kernel), fun h => absurd h (by decide), fun h => absurd h (by decide)⟩
theorem k_Re_numberOf : cOK m_Re_numberOf 3 0 := ⟨List.mem_filter.mpr ⟨List.mem_of_getElem? (i := 727) (by decide +kernel), rfl⟩, wd_ok (k := 138) (by decide +kernel), by decide +kernel, by decide, fun _ => wd_ok (k := 726) (by decide +kernel), fun h => absurd h (by decide), fun h => absurd h (by decide)⟩
theorem k_Re_keep : cOK m_Re_keep 3 1 := ⟨List.mem_filter.mpr ⟨List.mem_of_getElem? (i := 661) (by decide +kernel), rfl⟩, wd_ok (k := 138) (by decide +kernel), by decide +kernel, by decide, fun h => absurd h (by decide), fun _ => ⟨wd_ok (k := 660) (by decide +kernel), wd_ok (k := 1) (by decide +kernel)⟩, fun h => absurd h (by decide)⟩
theorem k_Re_start : cOK m_Re_start 1 1 := ⟨List.mem_filter.mpr ⟨List.mem_of_getElem? (i := 644) (by decide +kernel), rfl⟩, wd_ok (k := 138) (by decide +kernel), by decide +kernel, by decide, fun h => absurd h (by decide), fun _ => ⟨wd_ok (k := 642) (by decide +kernel), wd_ok (k := 643) (by decide +kernel)⟩, fun h => absurd h (by decide)⟩
theorem k_Re_token : cOK m_Re_token 0 1 := ⟨List.mem_filter.mpr ⟨List.mem_of_getElem? (i := 733) (by decide +kernel), rfl⟩, wd_ok (k := 138) (by decide +kernel), by decide +kernel, by decide, fun h => absurd h (by decide), fun _ => ⟨wd_ok (k := 731) (by decide +kernel), wd_ok (k := 732) (by decide +kernel)⟩, fun h => absurd h (by decide)⟩
theorem k_Re_take : cOK m_Re_take 1 1 := ⟨List.mem_filter.mpr ⟨List.mem_of_getElem? (i := 748) (by decide +kernel), rfl⟩, wd_ok (k := 138) (by decide +kernel), by decide +kernel, by decide, fun h => absurd h (by decide), fun _ => ⟨wd_ok (k := 746) (by decide +kernel), wd_ok (k := 747) (by decide +kernel)⟩, fun h => absurd h (by decide)⟩
theorem k_Re_takeNumber : cOK m_Re_takeNumber 2 1 := ⟨List.mem_filter.mpr ⟨List.mem_of_getElem? (i := 759) (by decide +kernel), rfl⟩, wd_ok (k := 138) (by decide +kernel), by decide +kernel, by decide, fun h => absurd h (by decide), fun _ => ⟨wd_ok (k := 757) (by decide +kernel), wd_ok (k := 758) (by decide +kernel)⟩, fun h => absurd h (by decide)⟩
theorem k_Re_takeNamed : cOK m_Re_takeNamed 3 1 := ⟨List.mem_filter.mpr ⟨List.mem_of_getElem? (i := 754) (by decide +kernel), rfl⟩, wd_ok (k := 138) (by decide +kernel), by decide +kernel, by decide, fun h => absurd h (by decide), fun _ => ⟨wd_ok (k := 752) (by decide +kernel), wd_ok (k := 753) (by decide +kernel)⟩, fun h => absurd h (by decide)⟩
theorem k_Re_value : cOK m_Re_value 0 1 := ⟨List.mem_filter.mpr ⟨List.mem_of_getElem? (i := 771) (by decide +kernel), rfl⟩, wd_ok (k := 138) (by decide +kernel), by decide +kernel, by decide, fun h => absurd h (by decide), fun _ => ⟨wd_ok (k := 769) (by decide +kernel), wd_ok (k := 770) (by decide +kernel)⟩, fun h => absurd h (by decide)⟩
theorem k_Vr_takeLiving : cOK m_Vr_takeLiving 1 1 := ⟨List.mem_filter.mpr ⟨List.mem_of_getElem? (i := 767) (by decide +kernel), rfl⟩, wd_ok (k := 139) (by decide +kernel), by decide +kernel, by decide, fun h => absurd h (by decide), fun _ => ⟨wd_ok (k := 766) (by decide +kernel), wd_ok (k := 5) (by decide +kernel)⟩, fun h => absurd h (by decide)⟩
theorem k_Va_addPerson : cOK m_Va_addPerson 4 1 := ⟨List.mem_filter.mpr ⟨List.mem_of_getElem? (i := 779) (by decide +kernel), rfl⟩, wd_ok (k := 142) (by decide +kernel), by decide +kernel, by decide, fun h => absurd h (by decide), fun _ => ⟨wd_ok (k := 777) (by decide +kernel), wd_ok (k := 778) (by decide +kernel)⟩, fun h => absurd h (by decide)⟩
theorem k_Vr_readPerson : cOK m_Vr_readPerson 1 1 := ⟨List.mem_filter.mpr ⟨List.mem_of_getElem? (i := 744) (by decide +kernel), rfl⟩, wd_ok (k := 139) (by decide +kernel), by decide +kernel, by decide, fun h => absurd h (by decide), fun _ => ⟨wd_ok (k := 743) (by decide +kernel), wd_ok (k := 4) (by decide +kernel)⟩, fun h => absurd h (by decide)⟩
theorem k_Vr_readHeir : cOK m_Vr_readHeir 1 1 := ⟨List.mem_filter.mpr ⟨List.mem_of_getElem? (i := 783) (by decide +kernel), rfl⟩, wd_ok (k := 139) (by decide +kernel), by decide +kernel, by decide, fun h => absurd h (by decide), fun _ => ⟨wd_ok (k := 782) (by decide +kernel), wd_ok (k := 6) (by decide +kernel)⟩, fun h => absurd h (by decide)⟩
theorem k_Va_addThing : cOK m_Va_addThing 3 1 := ⟨List.mem_filter.mpr ⟨List.mem_of_getElem? (i := 799) (by decide +kernel), rfl⟩, wd_ok (k := 142) (by decide +kernel), by decide +kernel, by decide, fun h => absurd h (by decide), fun _ => ⟨wd_ok (k := 797) (by decide +kernel), wd_ok (k := 798) (by decide +kernel)⟩, fun h => absurd h (by decide)⟩
theorem k_Va_move : cOK m_Va_move 3 1 := ⟨List.mem_filter.mpr ⟨List.mem_of_getElem? (i := 810) (by decide +kernel), rfl⟩, wd_ok (k := 142) (by decide +kernel), by decide +kernel, by decide, fun h => absurd h (by decide), fun _ => ⟨wd_ok (k := 808) (by decide +kernel), wd_ok (k := 809) (by decide +kernel)⟩, fun h => absurd h (by decide)⟩
theorem k_Vr_readPlace : cOK m_Vr_readPlace 2 1 := ⟨List.mem_filter.mpr ⟨List.mem_of_getElem? (i := 803) (by decide +kernel), rfl⟩, wd_ok (k := 139) (by decide +kernel), by decide +kernel, by decide, fun h => absurd h (by decide), fun _ => ⟨wd_ok (k := 802) (by decide +kernel), wd_ok (k := 8) (by decide +kernel)⟩, fun h => absurd h (by decide)⟩
theorem k_Vr_readThing : cOK m_Vr_readThing 1 1 := ⟨List.mem_filter.mpr ⟨List.mem_of_getElem? (i := 789) (by decide +kernel), rfl⟩, wd_ok (k := 139) (by decide +kernel), by decide +kernel, by decide, fun h => absurd h (by decide), fun _ => ⟨wd_ok (k := 788) (by decide +kernel), wd_ok (k := 7) (by decide +kernel)⟩, fun h => absurd h (by decide)⟩
theorem k_Vr_readCrownThing : cOK m_Vr_readCrownThing 1 1 := ⟨List.mem_filter.mpr ⟨List.mem_of_getElem? (i := 818) (by decide +kernel), rfl⟩, wd_ok (k := 139) (by decide +kernel), by decide +kernel, by decide, fun h => absurd h (by decide), fun _ => ⟨wd_ok (k := 817) (by decide +kernel), wd_ok (k := 9) (by decide +kernel)⟩, fun h => absurd h (by decide)⟩
theorem k_Vr_readSetting : cOK m_Vr_readSetting 2 1 := ⟨List.mem_filter.mpr ⟨List.mem_of_getElem? (i := 822) (by decide +kernel), rfl⟩, wd_ok (k := 139) (by decide +kernel), by decide +kernel, by decide, fun h => absurd h (by decide), fun _ => ⟨wd_ok (k := 821) (by decide +kernel), wd_ok (k := 10) (by decide +kernel)⟩, fun h => absurd h (by decide)⟩
theorem k_Vr_readLine : cOK m_Vr_readLine 1 1 := ⟨List.mem_filter.mpr ⟨List.mem_of_getElem? (i := 738) (by decide +kernel), rfl⟩, wd_ok (k := 139) (by decide +kernel), by decide +kernel, by decide, fun h => absurd h (by decide), fun _ => ⟨wd_ok (k := 737) (by decide +kernel), wd_ok (k := 3) (by decide +kernel)⟩, fun h => absurd h (by decide)⟩
theorem k_Re_begin : cOK m_Re_begin 0 1 := ⟨List.mem_filter.mpr ⟨List.mem_of_getElem? (i := 832) (by decide +kernel), rfl⟩, wd_ok (k := 138) (by decide +kernel), by decide +kernel, by decide, fun h => absurd h (by decide), fun _ => ⟨wd_ok (k := 830) (by decide +kernel), wd_ok (k := 831) (by decide +kernel)⟩, fun h => absurd h (by decide)⟩
theorem k_Vr_read : cOK m_Vr_read 2 1 := ⟨List.mem_filter.mpr ⟨List.mem_of_getElem? (i := 640) (by decide +kernel), rfl⟩, wd_ok (k := 139) (by decide +kernel), by decide +kernel, by decide, fun h => absurd h (by decide), fun _ => ⟨wd_ok (k := 638) (by decide +kernel), wd_ok (k := 639) (by decide +kernel)⟩, fun h => absurd h (by decide)⟩
theorem k_Gr_needNumber : cOK m_Gr_needNumber 1 0 := ⟨List.mem_filter.mpr ⟨List.mem_of_getElem? (i := 837) (by decide +kernel), rfl⟩, wd_ok (k := 134) (by decide +kernel), by decide +kernel, by decide, fun _ => wd_ok (k := 836) (by decide +kernel), fun h => absurd h (by decide), fun h => absurd h (by decide)⟩
theorem k_Gr_valley : cOK m_Gr_valley 0 1 := ⟨List.mem_filter.mpr ⟨List.mem_of_getElem? (i := 632) (by decide +kernel), rfl⟩, wd_ok (k := 134) (by decide +kernel), by decide +kernel, by decide, fun h => absurd h (by decide), fun _ => ⟨wd_ok (k := 630) (by decide +kernel), wd_ok (k := 631) (by decide +kernel)⟩, fun h => absurd h (by decide)⟩
theorem k_Lr_kindOf : cOK m_Lr_kindOf 1 0 := ⟨List.mem_filter.mpr ⟨List.mem_of_getElem? (i := 938) (by decide +kernel), rfl⟩, wd_ok (k := 140) (by decide +kernel), by decide +kernel, by decide, fun _ => wd_ok (k := 937) (by decide +kernel), fun h => absurd h (by decide), fun h => absurd h (by decide)⟩
theorem k_Re_step : cOK m_Re_step 0 1 := ⟨List.mem_filter.mpr ⟨List.mem_of_getElem? (i := 947) (by decide +kernel), rfl⟩, wd_ok (k := 138) (by decide +kernel), by decide +kernel, by decide, fun h => absurd h (by decide), fun _ => ⟨wd_ok (k := 945) (by decide +kernel), wd_ok (k := 946) (by decide +kernel)⟩, fun h => absurd h (by decide)⟩
theorem k_Lr_write : cOK m_Lr_write 1 1 := ⟨List.mem_filter.mpr ⟨List.mem_of_getElem? (i := 973) (by decide +kernel), rfl⟩, wd_ok (k := 140) (by decide +kernel), by decide +kernel, by decide, fun h => absurd h (by decide), fun _ => ⟨wd_ok (k := 972) (by decide +kernel), wd_ok (k := 16) (by decide +kernel)⟩, fun h => absurd h (by decide)⟩
theorem k_To_isTruth : cOK m_To_isTruth 0 1 := ⟨List.mem_filter.mpr ⟨List.mem_of_getElem? (i := 977) (by decide +kernel), rfl⟩, wd_ok (k := 147) (by decide +kernel), by decide +kernel, by decide, fun h => absurd h (by decide), fun _ => ⟨wd_ok (k := 975) (by decide +kernel), wd_ok (k := 976) (by decide +kernel)⟩, fun h => absurd h (by decide)⟩
theorem k_To_isPart : cOK m_To_isPart 0 1 := ⟨List.mem_filter.mpr ⟨List.mem_of_getElem? (i := 985) (by decide +kernel), rfl⟩, wd_ok (k := 147) (by decide +kernel), by decide +kernel, by decide, fun h => absurd h (by decide), fun _ => ⟨wd_ok (k := 983) (by decide +kernel), wd_ok (k := 984) (by decide +kernel)⟩, fun h => absurd h (by decide)⟩
theorem k_Lr_sum : cOK m_Lr_sum 0 1 := ⟨List.mem_filter.mpr ⟨List.mem_of_getElem? (i := 981) (by decide +kernel), rfl⟩, wd_ok (k := 140) (by decide +kernel), by decide +kernel, by decide, fun h => absurd h (by decide), fun _ => ⟨wd_ok (k := 980) (by decide +kernel), wd_ok (k := 17) (by decide +kernel)⟩, fun h => absurd h (by decide)⟩
theorem k0_Lr_atom : cOK (m_Lr_atom 0) 1 1 := ⟨List.mem_filter.mpr ⟨List.mem_of_getElem? (i := 963) (by decide +kernel), rfl⟩, wd_ok (k := 140) (by decide +kernel), by decide +kernel, by decide, fun h => absurd h (by decide), fun _ => ⟨wd_ok (k := 962) (by decide +kernel), wd_ok (k := 15) (by decide +kernel)⟩, fun h => absurd h (by decide)⟩
theorem k_Lr_atom (d : Nat) : cOK (m_Lr_atom d) 1 1 := k0_Lr_atom
theorem k0_Lr_allOf : cOK (m_Lr_allOf 0) 1 1 := ⟨List.mem_filter.mpr ⟨List.mem_of_getElem? (i := 959) (by decide +kernel), rfl⟩, wd_ok (k := 140) (by decide +kernel), by decide +kernel, by decide, fun h => absurd h (by decide), fun _ => ⟨wd_ok (k := 958) (by decide +kernel), wd_ok (k := 14) (by decide +kernel)⟩, fun h => absurd h (by decide)⟩
theorem k_Lr_allOf (d : Nat) : cOK (m_Lr_allOf d) 1 1 := k0_Lr_allOf
theorem k0_Lr_anyOf : cOK (m_Lr_anyOf 0) 1 1 := ⟨List.mem_filter.mpr ⟨List.mem_of_getElem? (i := 955) (by decide +kernel), rfl⟩, wd_ok (k := 140) (by decide +kernel), by decide +kernel, by decide, fun h => absurd h (by decide), fun _ => ⟨wd_ok (k := 954) (by decide +kernel), wd_ok (k := 13) (by decide +kernel)⟩, fun h => absurd h (by decide)⟩
theorem k_Lr_anyOf (d : Nat) : cOK (m_Lr_anyOf d) 1 1 := k0_Lr_anyOf
theorem k_Lr_readLine : cOK m_Lr_readLine 1 1 := ⟨List.mem_filter.mpr ⟨List.mem_of_getElem? (i := 935) (by decide +kernel), rfl⟩, wd_ok (k := 140) (by decide +kernel), by decide +kernel, by decide, fun h => absurd h (by decide), fun _ => ⟨wd_ok (k := 934) (by decide +kernel), wd_ok (k := 12) (by decide +kernel)⟩, fun h => absurd h (by decide)⟩
theorem k_Lr_read : cOK m_Lr_read 1 1 := ⟨List.mem_filter.mpr ⟨List.mem_of_getElem? (i := 928) (by decide +kernel), rfl⟩, wd_ok (k := 140) (by decide +kernel), by decide +kernel, by decide, fun h => absurd h (by decide), fun _ => ⟨wd_ok (k := 926) (by decide +kernel), wd_ok (k := 927) (by decide +kernel)⟩, fun h => absurd h (by decide)⟩
theorem k_La_init2 : cOK m_La_init2 5 2 := ⟨List.mem_filter.mpr ⟨List.mem_of_getElem? (i := 1005) (by decide +kernel), rfl⟩, wd_ok (k := 141) (by decide +kernel), by decide +kernel, by decide, fun h => absurd h (by decide), fun h => absurd h (by decide), fun _ => ⟨wd_ok (k := 1004) (by decide +kernel), rfl, rfl⟩⟩
theorem k_Lr_made : cOK m_Lr_made 0 1 := ⟨List.mem_filter.mpr ⟨List.mem_of_getElem? (i := 1001) (by decide +kernel), rfl⟩, wd_ok (k := 140) (by decide +kernel), by decide +kernel, by decide, fun h => absurd h (by decide), fun _ => ⟨wd_ok (k := 999) (by decide +kernel), wd_ok (k := 1000) (by decide +kernel)⟩, fun h => absurd h (by decide)⟩
theorem k_Gr_law : cOK m_Gr_law 0 1 := ⟨List.mem_filter.mpr ⟨List.mem_of_getElem? (i := 924) (by decide +kernel), rfl⟩, wd_ok (k := 134) (by decide +kernel), by decide +kernel, by decide, fun h => absurd h (by decide), fun _ => ⟨wd_ok (k := 922) (by decide +kernel), wd_ok (k := 923) (by decide +kernel)⟩, fun h => absurd h (by decide)⟩
theorem k_Va_isPerson : cOK m_Va_isPerson 1 1 := ⟨List.mem_filter.mpr ⟨List.mem_of_getElem? (i := 1030) (by decide +kernel), rfl⟩, wd_ok (k := 142) (by decide +kernel), by decide +kernel, by decide, fun h => absurd h (by decide), fun _ => ⟨wd_ok (k := 1028) (by decide +kernel), wd_ok (k := 1029) (by decide +kernel)⟩, fun h => absurd h (by decide)⟩
theorem k_Gr_needPerson : cOK m_Gr_needPerson 1 1 := ⟨List.mem_filter.mpr ⟨List.mem_of_getElem? (i := 1026) (by decide +kernel), rfl⟩, wd_ok (k := 134) (by decide +kernel), by decide +kernel, by decide, fun h => absurd h (by decide), fun _ => ⟨wd_ok (k := 1025) (by decide +kernel), wd_ok (k := 18) (by decide +kernel)⟩, fun h => absurd h (by decide)⟩
theorem k_Va_clothOf : cOK m_Va_clothOf 1 1 := ⟨List.mem_filter.mpr ⟨List.mem_of_getElem? (i := 1066) (by decide +kernel), rfl⟩, wd_ok (k := 142) (by decide +kernel), by decide +kernel, by decide, fun h => absurd h (by decide), fun _ => ⟨wd_ok (k := 1064) (by decide +kernel), wd_ok (k := 1065) (by decide +kernel)⟩, fun h => absurd h (by decide)⟩
theorem k_Va_measure : cOK m_Va_measure 2 1 := ⟨List.mem_filter.mpr ⟨List.mem_of_getElem? (i := 1061) (by decide +kernel), rfl⟩, wd_ok (k := 142) (by decide +kernel), by decide +kernel, by decide, fun h => absurd h (by decide), fun _ => ⟨wd_ok (k := 1059) (by decide +kernel), wd_ok (k := 1060) (by decide +kernel)⟩, fun h => absurd h (by decide)⟩
theorem k_La_holds : cOK m_La_holds 4 1 := ⟨List.mem_filter.mpr ⟨List.mem_of_getElem? (i := 1057) (by decide +kernel), rfl⟩, wd_ok (k := 141) (by decide +kernel), by decide +kernel, by decide, fun h => absurd h (by decide), fun _ => ⟨wd_ok (k := 1056) (by decide +kernel), wd_ok (k := 19) (by decide +kernel)⟩, fun h => absurd h (by decide)⟩
theorem k_La_total : cOK m_La_total 3 1 := ⟨List.mem_filter.mpr ⟨List.mem_of_getElem? (i := 1053) (by decide +kernel), rfl⟩, wd_ok (k := 141) (by decide +kernel), by decide +kernel, by decide, fun h => absurd h (by decide), fun _ => ⟨wd_ok (k := 1051) (by decide +kernel), wd_ok (k := 1052) (by decide +kernel)⟩, fun h => absurd h (by decide)⟩
theorem k_Va_grips : cOK m_Va_grips 1 1 := ⟨List.mem_filter.mpr ⟨List.mem_of_getElem? (i := 1049) (by decide +kernel), rfl⟩, wd_ok (k := 142) (by decide +kernel), by decide +kernel, by decide, fun h => absurd h (by decide), fun _ => ⟨wd_ok (k := 1047) (by decide +kernel), wd_ok (k := 1048) (by decide +kernel)⟩, fun h => absurd h (by decide)⟩
theorem k_Va_fails : cOK m_Va_fails 1 1 := ⟨List.mem_filter.mpr ⟨List.mem_of_getElem? (i := 1075) (by decide +kernel), rfl⟩, wd_ok (k := 142) (by decide +kernel), by decide +kernel, by decide, fun h => absurd h (by decide), fun _ => ⟨wd_ok (k := 1073) (by decide +kernel), wd_ok (k := 1074) (by decide +kernel)⟩, fun h => absurd h (by decide)⟩
theorem k_Es_estate : cOK m_Es_estate 2 0 := ⟨List.mem_filter.mpr ⟨List.mem_of_getElem? (i := 1082) (by decide +kernel), rfl⟩, wd_ok (k := 160) (by decide +kernel), by decide +kernel, by decide, fun _ => wd_ok (k := 1081) (by decide +kernel), fun h => absurd h (by decide), fun h => absurd h (by decide)⟩
theorem k_Es_lost : cOK m_Es_lost 2 0 := ⟨List.mem_filter.mpr ⟨List.mem_of_getElem? (i := 1086) (by decide +kernel), rfl⟩, wd_ok (k := 160) (by decide +kernel), by decide +kernel, by decide, fun _ => wd_ok (k := 1085) (by decide +kernel), fun h => absurd h (by decide), fun h => absurd h (by decide)⟩
theorem k_Es_hangers : cOK m_Es_hangers 2 0 := ⟨List.mem_filter.mpr ⟨List.mem_of_getElem? (i := 1092) (by decide +kernel), rfl⟩, wd_ok (k := 160) (by decide +kernel), by decide +kernel, by decide, fun _ => wd_ok (k := 1091) (by decide +kernel), fun h => absurd h (by decide), fun h => absurd h (by decide)⟩
theorem k_Es_hoped : cOK m_Es_hoped 2 0 := ⟨List.mem_filter.mpr ⟨List.mem_of_getElem? (i := 1095) (by decide +kernel), rfl⟩, wd_ok (k := 160) (by decide +kernel), by decide +kernel, by decide, fun _ => wd_ok (k := 1094) (by decide +kernel), fun h => absurd h (by decide), fun h => absurd h (by decide)⟩
theorem k_Ma_isBetter : cOK m_Ma_isBetter 3 0 := ⟨List.mem_filter.mpr ⟨List.mem_of_getElem? (i := 1112) (by decide +kernel), rfl⟩, wd_ok (k := 137) (by decide +kernel), by decide +kernel, by decide, fun _ => wd_ok (k := 1111) (by decide +kernel), fun h => absurd h (by decide), fun h => absurd h (by decide)⟩
theorem k_Ma_point : cOK m_Ma_point 2 1 := ⟨List.mem_filter.mpr ⟨List.mem_of_getElem? (i := 1109) (by decide +kernel), rfl⟩, wd_ok (k := 137) (by decide +kernel), by decide +kernel, by decide, fun h => absurd h (by decide), fun _ => ⟨wd_ok (k := 1108) (by decide +kernel), wd_ok (k := 20) (by decide +kernel)⟩, fun h => absurd h (by decide)⟩
theorem k_Ma_inRings : cOK m_Ma_inRings 2 1 := ⟨List.mem_filter.mpr ⟨List.mem_of_getElem? (i := 1116) (by decide +kernel), rfl⟩, wd_ok (k := 137) (by decide +kernel), by decide +kernel, by decide, fun h => absurd h (by decide), fun _ => ⟨wd_ok (k := 1115) (by decide +kernel), wd_ok (k := 21) (by decide +kernel)⟩, fun h => absurd h (by decide)⟩
theorem k_Ma_core : cOK m_Ma_core 2 1 := ⟨List.mem_filter.mpr ⟨List.mem_of_getElem? (i := 1102) (by decide +kernel), rfl⟩, wd_ok (k := 137) (by decide +kernel), by decide +kernel, by decide, fun h => absurd h (by decide), fun _ => ⟨wd_ok (k := 1100) (by decide +kernel), wd_ok (k := 1101) (by decide +kernel)⟩, fun h => absurd h (by decide)⟩
theorem k_Es_share : cOK m_Es_share 2 0 := ⟨List.mem_filter.mpr ⟨List.mem_of_getElem? (i := 1119) (by decide +kernel), rfl⟩, wd_ok (k := 160) (by decide +kernel), by decide +kernel, by decide, fun _ => wd_ok (k := 1118) (by decide +kernel), fun h => absurd h (by decide), fun h => absurd h (by decide)⟩
theorem k_Gr_person : cOK m_Gr_person 2 1 := ⟨List.mem_filter.mpr ⟨List.mem_of_getElem? (i := 1022) (by decide +kernel), rfl⟩, wd_ok (k := 134) (by decide +kernel), by decide +kernel, by decide, fun h => absurd h (by decide), fun _ => ⟨wd_ok (k := 1020) (by decide +kernel), wd_ok (k := 1021) (by decide +kernel)⟩, fun h => absurd h (by decide)⟩
theorem k_Va_isThing : cOK m_Va_isThing 1 1 := ⟨List.mem_filter.mpr ⟨List.mem_of_getElem? (i := 1150) (by decide +kernel), rfl⟩, wd_ok (k := 142) (by decide +kernel), by decide +kernel, by decide, fun h => absurd h (by decide), fun _ => ⟨wd_ok (k := 1148) (by decide +kernel), wd_ok (k := 1149) (by decide +kernel)⟩, fun h => absurd h (by decide)⟩
theorem k_Gr_needThing : cOK m_Gr_needThing 1 1 := ⟨List.mem_filter.mpr ⟨List.mem_of_getElem? (i := 1146) (by decide +kernel), rfl⟩, wd_ok (k := 134) (by decide +kernel), by decide +kernel, by decide, fun h => absurd h (by decide), fun _ => ⟨wd_ok (k := 1145) (by decide +kernel), wd_ok (k := 22) (by decide +kernel)⟩, fun h => absurd h (by decide)⟩
theorem k_Gr_thing : cOK m_Gr_thing 2 1 := ⟨List.mem_filter.mpr ⟨List.mem_of_getElem? (i := 1142) (by decide +kernel), rfl⟩, wd_ok (k := 134) (by decide +kernel), by decide +kernel, by decide, fun h => absurd h (by decide), fun _ => ⟨wd_ok (k := 1140) (by decide +kernel), wd_ok (k := 1141) (by decide +kernel)⟩, fun h => absurd h (by decide)⟩
theorem k_Va_fits : cOK m_Va_fits 2 1 := ⟨List.mem_filter.mpr ⟨List.mem_of_getElem? (i := 1164) (by decide +kernel), rfl⟩, wd_ok (k := 142) (by decide +kernel), by decide +kernel, by decide, fun h => absurd h (by decide), fun _ => ⟨wd_ok (k := 1162) (by decide +kernel), wd_ok (k := 1163) (by decide +kernel)⟩, fun h => absurd h (by decide)⟩
theorem k_Es_shutting : cOK m_Es_shutting 3 0 := ⟨List.mem_filter.mpr ⟨List.mem_of_getElem? (i := 1160) (by decide +kernel), rfl⟩, wd_ok (k := 160) (by decide +kernel), by decide +kernel, by decide, fun _ => wd_ok (k := 1159) (by decide +kernel), fun h => absurd h (by decide), fun h => absurd h (by decide)⟩
theorem k_Gr_shuts : cOK m_Gr_shuts 2 1 := ⟨List.mem_filter.mpr ⟨List.mem_of_getElem? (i := 1157) (by decide +kernel), rfl⟩, wd_ok (k := 134) (by decide +kernel), by decide +kernel, by decide, fun h => absurd h (by decide), fun _ => ⟨wd_ok (k := 1155) (by decide +kernel), wd_ok (k := 1156) (by decide +kernel)⟩, fun h => absurd h (by decide)⟩
theorem k_Gr_remember : cOK m_Gr_remember 0 1 := ⟨List.mem_filter.mpr ⟨List.mem_of_getElem? (i := 1176) (by decide +kernel), rfl⟩, wd_ok (k := 134) (by decide +kernel), by decide +kernel, by decide, fun h => absurd h (by decide), fun _ => ⟨wd_ok (k := 1175) (by decide +kernel), wd_ok (k := 23) (by decide +kernel)⟩, fun h => absurd h (by decide)⟩
theorem k_Lo_add : cOK m_Lo_add 5 1 := ⟨List.mem_filter.mpr ⟨List.mem_of_getElem? (i := 1191) (by decide +kernel), rfl⟩, wd_ok (k := 143) (by decide +kernel), by decide +kernel, by decide, fun h => absurd h (by decide), fun _ => ⟨wd_ok (k := 1189) (by decide +kernel), wd_ok (k := 1190) (by decide +kernel)⟩, fun h => absurd h (by decide)⟩
theorem k_Va_letGo : cOK m_Va_letGo 0 1 := ⟨List.mem_filter.mpr ⟨List.mem_of_getElem? (i := 1185) (by decide +kernel), rfl⟩, wd_ok (k := 142) (by decide +kernel), by decide +kernel, by decide, fun h => absurd h (by decide), fun _ => ⟨wd_ok (k := 1184) (by decide +kernel), wd_ok (k := 24) (by decide +kernel)⟩, fun h => absurd h (by decide)⟩
theorem k_Va_draw : cOK m_Va_draw 0 1 := ⟨List.mem_filter.mpr ⟨List.mem_of_getElem? (i := 1200) (by decide +kernel), rfl⟩, wd_ok (k := 142) (by decide +kernel), by decide +kernel, by decide, fun h => absurd h (by decide), fun _ => ⟨wd_ok (k := 1198) (by decide +kernel), wd_ok (k := 1199) (by decide +kernel)⟩, fun h => absurd h (by decide)⟩
theorem k_Va_numbered : cOK m_Va_numbered 2 1 := ⟨List.mem_filter.mpr ⟨List.mem_of_getElem? (i := 1205) (by decide +kernel), rfl⟩, wd_ok (k := 142) (by decide +kernel), by decide +kernel, by decide, fun h => absurd h (by decide), fun _ => ⟨wd_ok (k := 1204) (by decide +kernel), wd_ok (k := 26) (by decide +kernel)⟩, fun h => absurd h (by decide)⟩
theorem k_Va_feel : cOK m_Va_feel 0 1 := ⟨List.mem_filter.mpr ⟨List.mem_of_getElem? (i := 1196) (by decide +kernel), rfl⟩, wd_ok (k := 142) (by decide +kernel), by decide +kernel, by decide, fun h => absurd h (by decide), fun _ => ⟨wd_ok (k := 1195) (by decide +kernel), wd_ok (k := 25) (by decide +kernel)⟩, fun h => absurd h (by decide)⟩
theorem k_Va_die : cOK m_Va_die 1 1 := ⟨List.mem_filter.mpr ⟨List.mem_of_getElem? (i := 1215) (by decide +kernel), rfl⟩, wd_ok (k := 142) (by decide +kernel), by decide +kernel, by decide, fun h => absurd h (by decide), fun _ => ⟨wd_ok (k := 1214) (by decide +kernel), wd_ok (k := 28) (by decide +kernel)⟩, fun h => absurd h (by decide)⟩
theorem k_Va_wakeOrDie : cOK m_Va_wakeOrDie 0 1 := ⟨List.mem_filter.mpr ⟨List.mem_of_getElem? (i := 1210) (by decide +kernel), rfl⟩, wd_ok (k := 142) (by decide +kernel), by decide +kernel, by decide, fun h => absurd h (by decide), fun _ => ⟨wd_ok (k := 1209) (by decide +kernel), wd_ok (k := 27) (by decide +kernel)⟩, fun h => absurd h (by decide)⟩
theorem k_Va_pass : cOK m_Va_pass 1 1 := ⟨List.mem_filter.mpr ⟨List.mem_of_getElem? (i := 1181) (by decide +kernel), rfl⟩, wd_ok (k := 142) (by decide +kernel), by decide +kernel, by decide, fun h => absurd h (by decide), fun _ => ⟨wd_ok (k := 1179) (by decide +kernel), wd_ok (k := 1180) (by decide +kernel)⟩, fun h => absurd h (by decide)⟩
theorem k_Gr_nights : cOK m_Gr_nights 1 1 := ⟨List.mem_filter.mpr ⟨List.mem_of_getElem? (i := 1172) (by decide +kernel), rfl⟩, wd_ok (k := 134) (by decide +kernel), by decide +kernel, by decide, fun h => absurd h (by decide), fun _ => ⟨wd_ok (k := 1170) (by decide +kernel), wd_ok (k := 1171) (by decide +kernel)⟩, fun h => absurd h (by decide)⟩
theorem k_Va_isFree : cOK m_Va_isFree 1 1 := ⟨List.mem_filter.mpr ⟨List.mem_of_getElem? (i := 1227) (by decide +kernel), rfl⟩, wd_ok (k := 142) (by decide +kernel), by decide +kernel, by decide, fun h => absurd h (by decide), fun _ => ⟨wd_ok (k := 1225) (by decide +kernel), wd_ok (k := 1226) (by decide +kernel)⟩, fun h => absurd h (by decide)⟩
theorem k_Gr_needState : cOK m_Gr_needState 1 0 := ⟨List.mem_filter.mpr ⟨List.mem_of_getElem? (i := 1230) (by decide +kernel), rfl⟩, wd_ok (k := 134) (by decide +kernel), by decide +kernel, by decide, fun _ => wd_ok (k := 1229) (by decide +kernel), fun h => absurd h (by decide), fun h => absurd h (by decide)⟩
theorem k_Gr_lay : cOK m_Gr_lay 2 1 := ⟨List.mem_filter.mpr ⟨List.mem_of_getElem? (i := 1223) (by decide +kernel), rfl⟩, wd_ok (k := 134) (by decide +kernel), by decide +kernel, by decide, fun h => absurd h (by decide), fun _ => ⟨wd_ok (k := 1221) (by decide +kernel), wd_ok (k := 1222) (by decide +kernel)⟩, fun h => absurd h (by decide)⟩
theorem k_Gr_clear : cOK m_Gr_clear 1 1 := ⟨List.mem_filter.mpr ⟨List.mem_of_getElem? (i := 1254) (by decide +kernel), rfl⟩, wd_ok (k := 134) (by decide +kernel), by decide +kernel, by decide, fun h => absurd h (by decide), fun _ => ⟨wd_ok (k := 1252) (by decide +kernel), wd_ok (k := 1253) (by decide +kernel)⟩, fun h => absurd h (by decide)⟩
theorem k_Gr_wake : cOK m_Gr_wake 1 1 := ⟨List.mem_filter.mpr ⟨List.mem_of_getElem? (i := 1261) (by decide +kernel), rfl⟩, wd_ok (k := 134) (by decide +kernel), by decide +kernel, by decide, fun h => absurd h (by decide), fun _ => ⟨wd_ok (k := 1259) (by decide +kernel), wd_ok (k := 1260) (by decide +kernel)⟩, fun h => absurd h (by decide)⟩
theorem k_Gr_open : cOK m_Gr_open 1 1 := ⟨List.mem_filter.mpr ⟨List.mem_of_getElem? (i := 1269) (by decide +kernel), rfl⟩, wd_ok (k := 134) (by decide +kernel), by decide +kernel, by decide, fun h => absurd h (by decide), fun _ => ⟨wd_ok (k := 1267) (by decide +kernel), wd_ok (k := 1268) (by decide +kernel)⟩, fun h => absurd h (by decide)⟩
theorem k_Va_handOver : cOK m_Va_handOver 2 1 := ⟨List.mem_filter.mpr ⟨List.mem_of_getElem? (i := 1280) (by decide +kernel), rfl⟩, wd_ok (k := 142) (by decide +kernel), by decide +kernel, by decide, fun h => absurd h (by decide), fun _ => ⟨wd_ok (k := 1278) (by decide +kernel), wd_ok (k := 1279) (by decide +kernel)⟩, fun h => absurd h (by decide)⟩
theorem k_Gr_swap : cOK m_Gr_swap 2 1 := ⟨List.mem_filter.mpr ⟨List.mem_of_getElem? (i := 1276) (by decide +kernel), rfl⟩, wd_ok (k := 134) (by decide +kernel), by decide +kernel, by decide, fun h => absurd h (by decide), fun _ => ⟨wd_ok (k := 1274) (by decide +kernel), wd_ok (k := 1275) (by decide +kernel)⟩, fun h => absurd h (by decide)⟩
theorem k_Gr_heir : cOK m_Gr_heir 2 1 := ⟨List.mem_filter.mpr ⟨List.mem_of_getElem? (i := 1287) (by decide +kernel), rfl⟩, wd_ok (k := 134) (by decide +kernel), by decide +kernel, by decide, fun h => absurd h (by decide), fun _ => ⟨wd_ok (k := 1285) (by decide +kernel), wd_ok (k := 1286) (by decide +kernel)⟩, fun h => absurd h (by decide)⟩
theorem k_Gr_tie : cOK m_Gr_tie 2 1 := ⟨List.mem_filter.mpr ⟨List.mem_of_getElem? (i := 1294) (by decide +kernel), rfl⟩, wd_ok (k := 134) (by decide +kernel), by decide +kernel, by decide, fun h => absurd h (by decide), fun _ => ⟨wd_ok (k := 1292) (by decide +kernel), wd_ok (k := 1293) (by decide +kernel)⟩, fun h => absurd h (by decide)⟩
theorem k_Gr_born : cOK m_Gr_born 1 1 := ⟨List.mem_filter.mpr ⟨List.mem_of_getElem? (i := 1301) (by decide +kernel), rfl⟩, wd_ok (k := 134) (by decide +kernel), by decide +kernel, by decide, fun h => absurd h (by decide), fun _ => ⟨wd_ok (k := 1299) (by decide +kernel), wd_ok (k := 1300) (by decide +kernel)⟩, fun h => absurd h (by decide)⟩
theorem k_Gr_give : cOK m_Gr_give 2 1 := ⟨List.mem_filter.mpr ⟨List.mem_of_getElem? (i := 1309) (by decide +kernel), rfl⟩, wd_ok (k := 134) (by decide +kernel), by decide +kernel, by decide, fun h => absurd h (by decide), fun _ => ⟨wd_ok (k := 1307) (by decide +kernel), wd_ok (k := 1308) (by decide +kernel)⟩, fun h => absurd h (by decide)⟩
theorem k_Es_sizeOf : cOK m_Es_sizeOf 2 0 := ⟨List.mem_filter.mpr ⟨List.mem_of_getElem? (i := 1322) (by decide +kernel), rfl⟩, wd_ok (k := 160) (by decide +kernel), by decide +kernel, by decide, fun _ => wd_ok (k := 1321) (by decide +kernel), fun h => absurd h (by decide), fun h => absurd h (by decide)⟩
theorem k_Es_basket : cOK m_Es_basket 3 0 := ⟨List.mem_filter.mpr ⟨List.mem_of_getElem? (i := 1319) (by decide +kernel), rfl⟩, wd_ok (k := 160) (by decide +kernel), by decide +kernel, by decide, fun _ => wd_ok (k := 1318) (by decide +kernel), fun h => absurd h (by decide), fun h => absurd h (by decide)⟩
theorem k_Gr_hoard : cOK m_Gr_hoard 3 1 := ⟨List.mem_filter.mpr ⟨List.mem_of_getElem? (i := 1316) (by decide +kernel), rfl⟩, wd_ok (k := 134) (by decide +kernel), by decide +kernel, by decide, fun h => absurd h (by decide), fun _ => ⟨wd_ok (k := 1314) (by decide +kernel), wd_ok (k := 1315) (by decide +kernel)⟩, fun h => absurd h (by decide)⟩
theorem k_Ma_readHands : cOK m_Ma_readHands 1 1 := ⟨List.mem_filter.mpr ⟨List.mem_of_getElem? (i := 1337) (by decide +kernel), rfl⟩, wd_ok (k := 137) (by decide +kernel), by decide +kernel, by decide, fun h => absurd h (by decide), fun _ => ⟨wd_ok (k := 1336) (by decide +kernel), wd_ok (k := 29) (by decide +kernel)⟩, fun h => absurd h (by decide)⟩
theorem k_Ma_weakestHand : cOK m_Ma_weakestHand 2 1 := ⟨List.mem_filter.mpr ⟨List.mem_of_getElem? (i := 1346) (by decide +kernel), rfl⟩, wd_ok (k := 137) (by decide +kernel), by decide +kernel, by decide, fun h => absurd h (by decide), fun _ => ⟨wd_ok (k := 1345) (by decide +kernel), wd_ok (k := 31) (by decide +kernel)⟩, fun h => absurd h (by decide)⟩
theorem k_Ma_mostHeldBy : cOK m_Ma_mostHeldBy 3 1 := ⟨List.mem_filter.mpr ⟨List.mem_of_getElem? (i := 1342) (by decide +kernel), rfl⟩, wd_ok (k := 137) (by decide +kernel), by decide +kernel, by decide, fun h => absurd h (by decide), fun _ => ⟨wd_ok (k := 1341) (by decide +kernel), wd_ok (k := 30) (by decide +kernel)⟩, fun h => absurd h (by decide)⟩
theorem k_Ma_mostHeld : cOK m_Ma_mostHeld 1 1 := ⟨List.mem_filter.mpr ⟨List.mem_of_getElem? (i := 1333) (by decide +kernel), rfl⟩, wd_ok (k := 137) (by decide +kernel), by decide +kernel, by decide, fun h => absurd h (by decide), fun _ => ⟨wd_ok (k := 1331) (by decide +kernel), wd_ok (k := 1332) (by decide +kernel)⟩, fun h => absurd h (by decide)⟩
theorem k_Ma_leastChoice : cOK m_Ma_leastChoice 5 1 := ⟨List.mem_filter.mpr ⟨List.mem_of_getElem? (i := 1354) (by decide +kernel), rfl⟩, wd_ok (k := 137) (by decide +kernel), by decide +kernel, by decide, fun h => absurd h (by decide), fun _ => ⟨wd_ok (k := 1353) (by decide +kernel), wd_ok (k := 32) (by decide +kernel)⟩, fun h => absurd h (by decide)⟩
theorem k_Ma_thingPutTo : cOK m_Ma_thingPutTo 2 1 := ⟨List.mem_filter.mpr ⟨List.mem_of_getElem? (i := 1350) (by decide +kernel), rfl⟩, wd_ok (k := 137) (by decide +kernel), by decide +kernel, by decide, fun h => absurd h (by decide), fun _ => ⟨wd_ok (k := 1348) (by decide +kernel), wd_ok (k := 1349) (by decide +kernel)⟩, fun h => absurd h (by decide)⟩
theorem k_Gr_put : cOK m_Gr_put 1 1 := ⟨List.mem_filter.mpr ⟨List.mem_of_getElem? (i := 1329) (by decide +kernel), rfl⟩, wd_ok (k := 134) (by decide +kernel), by decide +kernel, by decide, fun h => absurd h (by decide), fun _ => ⟨wd_ok (k := 1327) (by decide +kernel), wd_ok (k := 1328) (by decide +kernel)⟩, fun h => absurd h (by decide)⟩
theorem k_Td_hasRows : cOK m_Td_hasRows 1 0 := ⟨List.mem_filter.mpr ⟨List.mem_of_getElem? (i := 1367) (by decide +kernel), rfl⟩, wd_ok (k := 136) (by decide +kernel), by decide +kernel, by decide, fun _ => wd_ok (k := 1366) (by decide +kernel), fun h => absurd h (by decide), fun h => absurd h (by decide)⟩
theorem k_Td_tellsThings : cOK m_Td_tellsThings 1 0 := ⟨List.mem_filter.mpr ⟨List.mem_of_getElem? (i := 1364) (by decide +kernel), rfl⟩, wd_ok (k := 136) (by decide +kernel), by decide +kernel, by decide, fun _ => wd_ok (k := 1363) (by decide +kernel), fun h => absurd h (by decide), fun h => absurd h (by decide)⟩
theorem k_Td_tellable : cOK m_Td_tellable 3 0 := ⟨List.mem_filter.mpr ⟨List.mem_of_getElem? (i := 1377) (by decide +kernel), rfl⟩, wd_ok (k := 136) (by decide +kernel), by decide +kernel, by decide, fun _ => wd_ok (k := 1376) (by decide +kernel), fun h => absurd h (by decide), fun h => absurd h (by decide)⟩
theorem k_Td_wrongOfThing : cOK m_Td_wrongOfThing 3 0 := ⟨List.mem_filter.mpr ⟨List.mem_of_getElem? (i := 1374) (by decide +kernel), rfl⟩, wd_ok (k := 136) (by decide +kernel), by decide +kernel, by decide, fun _ => wd_ok (k := 1373) (by decide +kernel), fun h => absurd h (by decide), fun h => absurd h (by decide)⟩
theorem k_Td_fittingThings : cOK m_Td_fittingThings 2 0 := ⟨List.mem_filter.mpr ⟨List.mem_of_getElem? (i := 1371) (by decide +kernel), rfl⟩, wd_ok (k := 136) (by decide +kernel), by decide +kernel, by decide, fun _ => wd_ok (k := 1370) (by decide +kernel), fun h => absurd h (by decide), fun h => absurd h (by decide)⟩
theorem k_Gr_held : cOK m_Gr_held 0 1 := ⟨List.mem_filter.mpr ⟨List.mem_of_getElem? (i := 1361) (by decide +kernel), rfl⟩, wd_ok (k := 134) (by decide +kernel), by decide +kernel, by decide, fun h => absurd h (by decide), fun _ => ⟨wd_ok (k := 1359) (by decide +kernel), wd_ok (k := 1360) (by decide +kernel)⟩, fun h => absurd h (by decide)⟩
theorem k_Td_likeliestThing : cOK m_Td_likeliestThing 2 0 := ⟨List.mem_filter.mpr ⟨List.mem_of_getElem? (i := 1387) (by decide +kernel), rfl⟩, wd_ok (k := 136) (by decide +kernel), by decide +kernel, by decide, fun _ => wd_ok (k := 1386) (by decide +kernel), fun h => absurd h (by decide), fun h => absurd h (by decide)⟩
theorem k_Gr_likely : cOK m_Gr_likely 0 1 := ⟨List.mem_filter.mpr ⟨List.mem_of_getElem? (i := 1384) (by decide +kernel), rfl⟩, wd_ok (k := 134) (by decide +kernel), by decide +kernel, by decide, fun h => absurd h (by decide), fun _ => ⟨wd_ok (k := 1382) (by decide +kernel), wd_ok (k := 1383) (by decide +kernel)⟩, fun h => absurd h (by decide)⟩
theorem k_Td_greatestPart : cOK m_Td_greatestPart 3 0 := ⟨List.mem_filter.mpr ⟨List.mem_of_getElem? (i := 1401) (by decide +kernel), rfl⟩, wd_ok (k := 136) (by decide +kernel), by decide +kernel, by decide, fun _ => wd_ok (k := 1400) (by decide +kernel), fun h => absurd h (by decide), fun h => absurd h (by decide)⟩
theorem k_Td_bestQuestion : cOK m_Td_bestQuestion 2 0 := ⟨List.mem_filter.mpr ⟨List.mem_of_getElem? (i := 1397) (by decide +kernel), rfl⟩, wd_ok (k := 136) (by decide +kernel), by decide +kernel, by decide, fun _ => wd_ok (k := 1396) (by decide +kernel), fun h => absurd h (by decide), fun h => absurd h (by decide)⟩
theorem k_Gr_ask : cOK m_Gr_ask 0 1 := ⟨List.mem_filter.mpr ⟨List.mem_of_getElem? (i := 1394) (by decide +kernel), rfl⟩, wd_ok (k := 134) (by decide +kernel), by decide +kernel, by decide, fun h => absurd h (by decide), fun _ => ⟨wd_ok (k := 1392) (by decide +kernel), wd_ok (k := 1393) (by decide +kernel)⟩, fun h => absurd h (by decide)⟩
theorem k_Td_tellsSizes : cOK m_Td_tellsSizes 1 0 := ⟨List.mem_filter.mpr ⟨List.mem_of_getElem? (i := 1412) (by decide +kernel), rfl⟩, wd_ok (k := 136) (by decide +kernel), by decide +kernel, by decide, fun _ => wd_ok (k := 1411) (by decide +kernel), fun h => absurd h (by decide), fun h => absurd h (by decide)⟩
theorem k_Td_wrongOfStrength : cOK m_Td_wrongOfStrength 2 0 := ⟨List.mem_filter.mpr ⟨List.mem_of_getElem? (i := 1418) (by decide +kernel), rfl⟩, wd_ok (k := 136) (by decide +kernel), by decide +kernel, by decide, fun _ => wd_ok (k := 1417) (by decide +kernel), fun h => absurd h (by decide), fun h => absurd h (by decide)⟩
theorem k_Td_leastStrength : cOK m_Td_leastStrength 1 0 := ⟨List.mem_filter.mpr ⟨List.mem_of_getElem? (i := 1415) (by decide +kernel), rfl⟩, wd_ok (k := 136) (by decide +kernel), by decide +kernel, by decide, fun _ => wd_ok (k := 1414) (by decide +kernel), fun h => absurd h (by decide), fun h => absurd h (by decide)⟩
theorem k_Td_fittingStrengths : cOK m_Td_fittingStrengths 1 0 := ⟨List.mem_filter.mpr ⟨List.mem_of_getElem? (i := 1421) (by decide +kernel), rfl⟩, wd_ok (k := 136) (by decide +kernel), by decide +kernel, by decide, fun _ => wd_ok (k := 1420) (by decide +kernel), fun h => absurd h (by decide), fun h => absurd h (by decide)⟩
theorem k_Gr_strong : cOK m_Gr_strong 1 1 := ⟨List.mem_filter.mpr ⟨List.mem_of_getElem? (i := 1409) (by decide +kernel), rfl⟩, wd_ok (k := 134) (by decide +kernel), by decide +kernel, by decide, fun h => absurd h (by decide), fun _ => ⟨wd_ok (k := 1407) (by decide +kernel), wd_ok (k := 1408) (by decide +kernel)⟩, fun h => absurd h (by decide)⟩
theorem k_Td_bestSize : cOK m_Td_bestSize 1 0 := ⟨List.mem_filter.mpr ⟨List.mem_of_getElem? (i := 1431) (by decide +kernel), rfl⟩, wd_ok (k := 136) (by decide +kernel), by decide +kernel, by decide, fun _ => wd_ok (k := 1430) (by decide +kernel), fun h => absurd h (by decide), fun h => absurd h (by decide)⟩
theorem k_Gr_test : cOK m_Gr_test 0 1 := ⟨List.mem_filter.mpr ⟨List.mem_of_getElem? (i := 1428) (by decide +kernel), rfl⟩, wd_ok (k := 134) (by decide +kernel), by decide +kernel, by decide, fun h => absurd h (by decide), fun _ => ⟨wd_ok (k := 1426) (by decide +kernel), wd_ok (k := 1427) (by decide +kernel)⟩, fun h => absurd h (by decide)⟩
theorem k_Td_tellsFingers : cOK m_Td_tellsFingers 1 0 := ⟨List.mem_filter.mpr ⟨List.mem_of_getElem? (i := 1441) (by decide +kernel), rfl⟩, wd_ok (k := 136) (by decide +kernel), by decide +kernel, by decide, fun _ => wd_ok (k := 1440) (by decide +kernel), fun h => absurd h (by decide), fun h => absurd h (by decide)⟩
theorem k_Td_winningOpening : cOK m_Td_winningOpening 2 1 := ⟨List.mem_filter.mpr ⟨List.mem_of_getElem? (i := 1445) (by decide +kernel), rfl⟩, wd_ok (k := 136) (by decide +kernel), by decide +kernel, by decide, fun h => absurd h (by decide), fun _ => ⟨wd_ok (k := 1443) (by decide +kernel), wd_ok (k := 1444) (by decide +kernel)⟩, fun h => absurd h (by decide)⟩
theorem k_Gr_fingers : cOK m_Gr_fingers 1 1 := ⟨List.mem_filter.mpr ⟨List.mem_of_getElem? (i := 1438) (by decide +kernel), rfl⟩, wd_ok (k := 134) (by decide +kernel), by decide +kernel, by decide, fun h => absurd h (by decide), fun _ => ⟨wd_ok (k := 1436) (by decide +kernel), wd_ok (k := 1437) (by decide +kernel)⟩, fun h => absurd h (by decide)⟩
theorem k_Gr_opens : cOK m_Gr_opens 1 1 := ⟨List.mem_filter.mpr ⟨List.mem_of_getElem? (i := 1452) (by decide +kernel), rfl⟩, wd_ok (k := 134) (by decide +kernel), by decide +kernel, by decide, fun h => absurd h (by decide), fun _ => ⟨wd_ok (k := 1450) (by decide +kernel), wd_ok (k := 1451) (by decide +kernel)⟩, fun h => absurd h (by decide)⟩
theorem k_Ma_mayPair : cOK m_Ma_mayPair 3 0 := ⟨List.mem_filter.mpr ⟨List.mem_of_getElem? (i := 1470) (by decide +kernel), rfl⟩, wd_ok (k := 137) (by decide +kernel), by decide +kernel, by decide, fun _ => wd_ok (k := 1469) (by decide +kernel), fun h => absurd h (by decide), fun h => absurd h (by decide)⟩
theorem k_Ma_gripsOf : cOK m_Ma_gripsOf 3 0 := ⟨List.mem_filter.mpr ⟨List.mem_of_getElem? (i := 1473) (by decide +kernel), rfl⟩, wd_ok (k := 137) (by decide +kernel), by decide +kernel, by decide, fun _ => wd_ok (k := 1472) (by decide +kernel), fun h => absurd h (by decide), fun h => absurd h (by decide)⟩
theorem k_Ma_readPairs : cOK m_Ma_readPairs 1 1 := ⟨List.mem_filter.mpr ⟨List.mem_of_getElem? (i := 1467) (by decide +kernel), rfl⟩, wd_ok (k := 137) (by decide +kernel), by decide +kernel, by decide, fun h => absurd h (by decide), fun _ => ⟨wd_ok (k := 1466) (by decide +kernel), wd_ok (k := 33) (by decide +kernel)⟩, fun h => absurd h (by decide)⟩
theorem k_Ma_mostPaired : cOK m_Ma_mostPaired 1 1 := ⟨List.mem_filter.mpr ⟨List.mem_of_getElem? (i := 1463) (by decide +kernel), rfl⟩, wd_ok (k := 137) (by decide +kernel), by decide +kernel, by decide, fun h => absurd h (by decide), fun _ => ⟨wd_ok (k := 1461) (by decide +kernel), wd_ok (k := 1462) (by decide +kernel)⟩, fun h => absurd h (by decide)⟩
theorem k_Ma_leastPartner : cOK m_Ma_leastPartner 3 1 := ⟨List.mem_filter.mpr ⟨List.mem_of_getElem? (i := 1482) (by decide +kernel), rfl⟩, wd_ok (k := 137) (by decide +kernel), by decide +kernel, by decide, fun h => absurd h (by decide), fun _ => ⟨wd_ok (k := 1481) (by decide +kernel), wd_ok (k := 34) (by decide +kernel)⟩, fun h => absurd h (by decide)⟩
theorem k_Ma_partner : cOK m_Ma_partner 2 1 := ⟨List.mem_filter.mpr ⟨List.mem_of_getElem? (i := 1478) (by decide +kernel), rfl⟩, wd_ok (k := 137) (by decide +kernel), by decide +kernel, by decide, fun h => absurd h (by decide), fun _ => ⟨wd_ok (k := 1476) (by decide +kernel), wd_ok (k := 1477) (by decide +kernel)⟩, fun h => absurd h (by decide)⟩
theorem k_Gr_pairs : cOK m_Gr_pairs 1 1 := ⟨List.mem_filter.mpr ⟨List.mem_of_getElem? (i := 1459) (by decide +kernel), rfl⟩, wd_ok (k := 134) (by decide +kernel), by decide +kernel, by decide, fun h => absurd h (by decide), fun _ => ⟨wd_ok (k := 1457) (by decide +kernel), wd_ok (k := 1458) (by decide +kernel)⟩, fun h => absurd h (by decide)⟩
theorem k_Es_heirHas : cOK m_Es_heirHas 3 0 := ⟨List.mem_filter.mpr ⟨List.mem_of_getElem? (i := 1496) (by decide +kernel), rfl⟩, wd_ok (k := 160) (by decide +kernel), by decide +kernel, by decide, fun _ => wd_ok (k := 1495) (by decide +kernel), fun h => absurd h (by decide), fun h => absurd h (by decide)⟩
theorem k_Es_nurseHas : cOK m_Es_nurseHas 2 0 := ⟨List.mem_filter.mpr ⟨List.mem_of_getElem? (i := 1499) (by decide +kernel), rfl⟩, wd_ok (k := 160) (by decide +kernel), by decide +kernel, by decide, fun _ => wd_ok (k := 1498) (by decide +kernel), fun h => absurd h (by decide), fun h => absurd h (by decide)⟩
theorem k_Es_restingChoices : cOK m_Es_restingChoices 2 0 := ⟨List.mem_filter.mpr ⟨List.mem_of_getElem? (i := 1492) (by decide +kernel), rfl⟩, wd_ok (k := 160) (by decide +kernel), by decide +kernel, by decide, fun _ => wd_ok (k := 1491) (by decide +kernel), fun h => absurd h (by decide), fun h => absurd h (by decide)⟩
theorem k_Gr_rests : cOK m_Gr_rests 1 1 := ⟨List.mem_filter.mpr ⟨List.mem_of_getElem? (i := 1489) (by decide +kernel), rfl⟩, wd_ok (k := 134) (by decide +kernel), by decide +kernel, by decide, fun h => absurd h (by decide), fun _ => ⟨wd_ok (k := 1487) (by decide +kernel), wd_ok (k := 1488) (by decide +kernel)⟩, fun h => absurd h (by decide)⟩
theorem k_Es_oddsThatAllWake : cOK m_Es_oddsThatAllWake 2 0 := ⟨List.mem_filter.mpr ⟨List.mem_of_getElem? (i := 1509) (by decide +kernel), rfl⟩, wd_ok (k := 160) (by decide +kernel), by decide +kernel, by decide, fun _ => wd_ok (k := 1508) (by decide +kernel), fun h => absurd h (by decide), fun h => absurd h (by decide)⟩
theorem k_Gr_odds : cOK m_Gr_odds 1 1 := ⟨List.mem_filter.mpr ⟨List.mem_of_getElem? (i := 1506) (by decide +kernel), rfl⟩, wd_ok (k := 134) (by decide +kernel), by decide +kernel, by decide, fun h => absurd h (by decide), fun _ => ⟨wd_ok (k := 1504) (by decide +kernel), wd_ok (k := 1505) (by decide +kernel)⟩, fun h => absurd h (by decide)⟩
theorem k_Es_standing : cOK m_Es_standing 3 0 := ⟨List.mem_filter.mpr ⟨List.mem_of_getElem? (i := 1523) (by decide +kernel), rfl⟩, wd_ok (k := 160) (by decide +kernel), by decide +kernel, by decide, fun _ => wd_ok (k := 1522) (by decide +kernel), fun h => absurd h (by decide), fun h => absurd h (by decide)⟩
theorem k_Es_foremost : cOK m_Es_foremost 2 0 := ⟨List.mem_filter.mpr ⟨List.mem_of_getElem? (i := 1520) (by decide +kernel), rfl⟩, wd_ok (k := 160) (by decide +kernel), by decide +kernel, by decide, fun _ => wd_ok (k := 1519) (by decide +kernel), fun h => absurd h (by decide), fun h => absurd h (by decide)⟩
theorem k_Gr_most : cOK m_Gr_most 1 1 := ⟨List.mem_filter.mpr ⟨List.mem_of_getElem? (i := 1517) (by decide +kernel), rfl⟩, wd_ok (k := 134) (by decide +kernel), by decide +kernel, by decide, fun h => absurd h (by decide), fun _ => ⟨wd_ok (k := 1515) (by decide +kernel), wd_ok (k := 1516) (by decide +kernel)⟩, fun h => absurd h (by decide)⟩
theorem k_Va_passLettingGo : cOK m_Va_passLettingGo 1 1 := ⟨List.mem_filter.mpr ⟨List.mem_of_getElem? (i := 1534) (by decide +kernel), rfl⟩, wd_ok (k := 142) (by decide +kernel), by decide +kernel, by decide, fun h => absurd h (by decide), fun _ => ⟨wd_ok (k := 1532) (by decide +kernel), wd_ok (k := 1533) (by decide +kernel)⟩, fun h => absurd h (by decide)⟩
theorem k_Gr_ahead : cOK m_Gr_ahead 2 1 := ⟨List.mem_filter.mpr ⟨List.mem_of_getElem? (i := 1530) (by decide +kernel), rfl⟩, wd_ok (k := 134) (by decide +kernel), by decide +kernel, by decide, fun h => absurd h (by decide), fun _ => ⟨wd_ok (k := 1528) (by decide +kernel), wd_ok (k := 1529) (by decide +kernel)⟩, fun h => absurd h (by decide)⟩
theorem k_Gr_trial : cOK m_Gr_trial 2 1 := ⟨List.mem_filter.mpr ⟨List.mem_of_getElem? (i := 1541) (by decide +kernel), rfl⟩, wd_ok (k := 134) (by decide +kernel), by decide +kernel, by decide, fun h => absurd h (by decide), fun _ => ⟨wd_ok (k := 1539) (by decide +kernel), wd_ok (k := 1540) (by decide +kernel)⟩, fun h => absurd h (by decide)⟩
theorem k_Gr_span : cOK m_Gr_span 2 1 := ⟨List.mem_filter.mpr ⟨List.mem_of_getElem? (i := 1548) (by decide +kernel), rfl⟩, wd_ok (k := 134) (by decide +kernel), by decide +kernel, by decide, fun h => absurd h (by decide), fun _ => ⟨wd_ok (k := 1546) (by decide +kernel), wd_ok (k := 1547) (by decide +kernel)⟩, fun h => absurd h (by decide)⟩
theorem k_Lo_read : cOK m_Lo_read 2 1 := ⟨List.mem_filter.mpr ⟨List.mem_of_getElem? (i := 1563) (by decide +kernel), rfl⟩, wd_ok (k := 143) (by decide +kernel), by decide +kernel, by decide, fun h => absurd h (by decide), fun _ => ⟨wd_ok (k := 1561) (by decide +kernel), wd_ok (k := 1562) (by decide +kernel)⟩, fun h => absurd h (by decide)⟩
theorem k_Lo_latestNightOf : cOK m_Lo_latestNightOf 1 1 := ⟨List.mem_filter.mpr ⟨List.mem_of_getElem? (i := 1559) (by decide +kernel), rfl⟩, wd_ok (k := 143) (by decide +kernel), by decide +kernel, by decide, fun h => absurd h (by decide), fun _ => ⟨wd_ok (k := 1557) (by decide +kernel), wd_ok (k := 1558) (by decide +kernel)⟩, fun h => absurd h (by decide)⟩
theorem k_Lo_rowsOf : cOK m_Lo_rowsOf 1 1 := ⟨List.mem_filter.mpr ⟨List.mem_of_getElem? (i := 1567) (by decide +kernel), rfl⟩, wd_ok (k := 143) (by decide +kernel), by decide +kernel, by decide, fun h => absurd h (by decide), fun _ => ⟨wd_ok (k := 1565) (by decide +kernel), wd_ok (k := 1566) (by decide +kernel)⟩, fun h => absurd h (by decide)⟩
theorem k_Gr_led : cOK m_Gr_led 2 1 := ⟨List.mem_filter.mpr ⟨List.mem_of_getElem? (i := 1555) (by decide +kernel), rfl⟩, wd_ok (k := 134) (by decide +kernel), by decide +kernel, by decide, fun h => absurd h (by decide), fun _ => ⟨wd_ok (k := 1553) (by decide +kernel), wd_ok (k := 1554) (by decide +kernel)⟩, fun h => absurd h (by decide)⟩
theorem k_Gr_log : cOK m_Gr_log 2 1 := ⟨List.mem_filter.mpr ⟨List.mem_of_getElem? (i := 1574) (by decide +kernel), rfl⟩, wd_ok (k := 134) (by decide +kernel), by decide +kernel, by decide, fun h => absurd h (by decide), fun _ => ⟨wd_ok (k := 1572) (by decide +kernel), wd_ok (k := 1573) (by decide +kernel)⟩, fun h => absurd h (by decide)⟩
theorem k_JI_numberOfTrailingZeros : cOK m_JI_numberOfTrailingZeros 1 0 := ⟨List.mem_filter.mpr ⟨List.mem_of_getElem? (i := 2032) (by decide +kernel), rfl⟩, wd_ok (k := 158) (by decide +kernel), by decide +kernel, by decide, fun _ => wd_ok (k := 2031) (by decide +kernel), fun h => absurd h (by decide), fun h => absurd h (by decide)⟩
end
section
theorem k_Mo_thrown : cOK m_Mo_thrown 0 1 := ⟨List.mem_filter.mpr ⟨List.mem_of_getElem? (i := 1579) (by decide +kernel), rfl⟩, wd_ok (k := 144) (by decide +kernel), by decide +kernel, by decide, fun h => absurd h (by decide), fun _ => ⟨wd_ok (k := 1577) (by decide +kernel), wd_ok (k := 1578) (by decide +kernel)⟩, fun h => absurd h (by decide)⟩
theorem k_Mo_init : cOK m_Mo_init 0 2 := ⟨List.mem_filter.mpr ⟨List.mem_of_getElem? (i := 1584) (by decide +kernel), rfl⟩, wd_ok (k := 144) (by decide +kernel), by decide +kernel, by decide, fun h => absurd h (by decide), fun h => absurd h (by decide), fun _ => ⟨wd_ok (k := 1583) (by decide +kernel), rfl, rfl⟩⟩
theorem k_Mo_image : cOK m_Mo_image 0 1 := ⟨List.mem_filter.mpr ⟨List.mem_of_getElem? (i := 1666) (by decide +kernel), rfl⟩, wd_ok (k := 144) (by decide +kernel), by decide +kernel, by decide, fun h => absurd h (by decide), fun _ => ⟨wd_ok (k := 1664) (by decide +kernel), wd_ok (k := 1665) (by decide +kernel)⟩, fun h => absurd h (by decide)⟩
theorem k_Mo_back : cOK m_Mo_back 0 1 := ⟨List.mem_filter.mpr ⟨List.mem_of_getElem? (i := 1670) (by decide +kernel), rfl⟩, wd_ok (k := 144) (by decide +kernel), by decide +kernel, by decide, fun h => absurd h (by decide), fun _ => ⟨wd_ok (k := 1668) (by decide +kernel), wd_ok (k := 1669) (by decide +kernel)⟩, fun h => absurd h (by decide)⟩
theorem k_Mo_undo : cOK m_Mo_undo 0 1 := ⟨List.mem_filter.mpr ⟨List.mem_of_getElem? (i := 1674) (by decide +kernel), rfl⟩, wd_ok (k := 144) (by decide +kernel), by decide +kernel, by decide, fun h => absurd h (by decide), fun _ => ⟨wd_ok (k := 1672) (by decide +kernel), wd_ok (k := 1673) (by decide +kernel)⟩, fun h => absurd h (by decide)⟩
theorem k_Mo_feed : cOK m_Mo_feed 5 1 := ⟨List.mem_filter.mpr ⟨List.mem_of_getElem? (i := 1678) (by decide +kernel), rfl⟩, wd_ok (k := 144) (by decide +kernel), by decide +kernel, by decide, fun h => absurd h (by decide), fun _ => ⟨wd_ok (k := 1676) (by decide +kernel), wd_ok (k := 1677) (by decide +kernel)⟩, fun h => absurd h (by decide)⟩
theorem k_Mo_end : cOK m_Mo_end 1 1 := ⟨List.mem_filter.mpr ⟨List.mem_of_getElem? (i := 1682) (by decide +kernel), rfl⟩, wd_ok (k := 144) (by decide +kernel), by decide +kernel, by decide, fun h => absurd h (by decide), fun _ => ⟨wd_ok (k := 1680) (by decide +kernel), wd_ok (k := 1681) (by decide +kernel)⟩, fun h => absurd h (by decide)⟩
theorem k_Mo_fault : cOK m_Mo_fault 0 1 := ⟨List.mem_filter.mpr ⟨List.mem_of_getElem? (i := 1686) (by decide +kernel), rfl⟩, wd_ok (k := 144) (by decide +kernel), by decide +kernel, by decide, fun h => absurd h (by decide), fun _ => ⟨wd_ok (k := 1684) (by decide +kernel), wd_ok (k := 1685) (by decide +kernel)⟩, fun h => absurd h (by decide)⟩
theorem k_Mo_uses : cOK m_Mo_uses 0 1 := ⟨List.mem_filter.mpr ⟨List.mem_of_getElem? (i := 1698) (by decide +kernel), rfl⟩, wd_ok (k := 144) (by decide +kernel), by decide +kernel, by decide, fun h => absurd h (by decide), fun _ => ⟨wd_ok (k := 1697) (by decide +kernel), wd_ok (k := 36) (by decide +kernel)⟩, fun h => absurd h (by decide)⟩
theorem k_Mo_isAt : cOK m_Mo_isAt 2 1 := ⟨List.mem_filter.mpr ⟨List.mem_of_getElem? (i := 1706) (by decide +kernel), rfl⟩, wd_ok (k := 144) (by decide +kernel), by decide +kernel, by decide, fun h => absurd h (by decide), fun _ => ⟨wd_ok (k := 1705) (by decide +kernel), wd_ok (k := 38) (by decide +kernel)⟩, fun h => absurd h (by decide)⟩
theorem k_Mo_blanks : cOK m_Mo_blanks 0 1 := ⟨List.mem_filter.mpr ⟨List.mem_of_getElem? (i := 1702) (by decide +kernel), rfl⟩, wd_ok (k := 144) (by decide +kernel), by decide +kernel, by decide, fun h => absurd h (by decide), fun _ => ⟨wd_ok (k := 1701) (by decide +kernel), wd_ok (k := 37) (by decide +kernel)⟩, fun h => absurd h (by decide)⟩
theorem k_Mo_letters : cOK m_Mo_letters 0 1 := ⟨List.mem_filter.mpr ⟨List.mem_of_getElem? (i := 1714) (by decide +kernel), rfl⟩, wd_ok (k := 144) (by decide +kernel), by decide +kernel, by decide, fun h => absurd h (by decide), fun _ => ⟨wd_ok (k := 1713) (by decide +kernel), wd_ok (k := 40) (by decide +kernel)⟩, fun h => absurd h (by decide)⟩
theorem k_Mo_isWord : cOK m_Mo_isWord 1 1 := ⟨List.mem_filter.mpr ⟨List.mem_of_getElem? (i := 1723) (by decide +kernel), rfl⟩, wd_ok (k := 144) (by decide +kernel), by decide +kernel, by decide, fun h => absurd h (by decide), fun _ => ⟨wd_ok (k := 1722) (by decide +kernel), wd_ok (k := 42) (by decide +kernel)⟩, fun h => absurd h (by decide)⟩
theorem k_Mo_people : cOK m_Mo_people 0 1 := ⟨List.mem_filter.mpr ⟨List.mem_of_getElem? (i := 1733) (by decide +kernel), rfl⟩, wd_ok (k := 144) (by decide +kernel), by decide +kernel, by decide, fun h => absurd h (by decide), fun _ => ⟨wd_ok (k := 1732) (by decide +kernel), wd_ok (k := 44) (by decide +kernel)⟩, fun h => absurd h (by decide)⟩
theorem k_Mo_number : cOK m_Mo_number 2 1 := ⟨List.mem_filter.mpr ⟨List.mem_of_getElem? (i := 1742) (by decide +kernel), rfl⟩, wd_ok (k := 144) (by decide +kernel), by decide +kernel, by decide, fun h => absurd h (by decide), fun _ => ⟨wd_ok (k := 1741) (by decide +kernel), wd_ok (k := 46) (by decide +kernel)⟩, fun h => absurd h (by decide)⟩
theorem k_Mo_behind : cOK m_Mo_behind 3 1 := ⟨List.mem_filter.mpr ⟨List.mem_of_getElem? (i := 1738) (by decide +kernel), rfl⟩, wd_ok (k := 144) (by decide +kernel), by decide +kernel, by decide, fun h => absurd h (by decide), fun _ => ⟨wd_ok (k := 1737) (by decide +kernel), wd_ok (k := 45) (by decide +kernel)⟩, fun h => absurd h (by decide)⟩
theorem k_Mo_passes : cOK m_Mo_passes 1 1 := ⟨List.mem_filter.mpr ⟨List.mem_of_getElem? (i := 1748) (by decide +kernel), rfl⟩, wd_ok (k := 144) (by decide +kernel), by decide +kernel, by decide, fun h => absurd h (by decide), fun _ => ⟨wd_ok (k := 1747) (by decide +kernel), wd_ok (k := 47) (by decide +kernel)⟩, fun h => absurd h (by decide)⟩
theorem k_Mo_personAt : cOK m_Mo_personAt 2 0 := ⟨List.mem_filter.mpr ⟨List.mem_of_getElem? (i := 1763) (by decide +kernel), rfl⟩, wd_ok (k := 144) (by decide +kernel), by decide +kernel, by decide, fun _ => wd_ok (k := 1762) (by decide +kernel), fun h => absurd h (by decide), fun h => absurd h (by decide)⟩
theorem k_Mo_of : cOK m_Mo_of 2 1 := ⟨List.mem_filter.mpr ⟨List.mem_of_getElem? (i := 1760) (by decide +kernel), rfl⟩, wd_ok (k := 144) (by decide +kernel), by decide +kernel, by decide, fun h => absurd h (by decide), fun _ => ⟨wd_ok (k := 1759) (by decide +kernel), wd_ok (k := 50) (by decide +kernel)⟩, fun h => absurd h (by decide)⟩
theorem k_Mo_lives : cOK m_Mo_lives 1 1 := ⟨List.mem_filter.mpr ⟨List.mem_of_getElem? (i := 1756) (by decide +kernel), rfl⟩, wd_ok (k := 144) (by decide +kernel), by decide +kernel, by decide, fun h => absurd h (by decide), fun _ => ⟨wd_ok (k := 1755) (by decide +kernel), wd_ok (k := 49) (by decide +kernel)⟩, fun h => absurd h (by decide)⟩
theorem k_Mo_livingNumber : cOK m_Mo_livingNumber 0 1 := ⟨List.mem_filter.mpr ⟨List.mem_of_getElem? (i := 1752) (by decide +kernel), rfl⟩, wd_ok (k := 144) (by decide +kernel), by decide +kernel, by decide, fun h => absurd h (by decide), fun _ => ⟨wd_ok (k := 1751) (by decide +kernel), wd_ok (k := 48) (by decide +kernel)⟩, fun h => absurd h (by decide)⟩
theorem k_Mo_isBorn : cOK m_Mo_isBorn 2 1 := ⟨List.mem_filter.mpr ⟨List.mem_of_getElem? (i := 1767) (by decide +kernel), rfl⟩, wd_ok (k := 144) (by decide +kernel), by decide +kernel, by decide, fun h => absurd h (by decide), fun _ => ⟨wd_ok (k := 1766) (by decide +kernel), wd_ok (k := 51) (by decide +kernel)⟩, fun h => absurd h (by decide)⟩
theorem k_Mo_readPerson : cOK m_Mo_readPerson 0 1 := ⟨List.mem_filter.mpr ⟨List.mem_of_getElem? (i := 1729) (by decide +kernel), rfl⟩, wd_ok (k := 144) (by decide +kernel), by decide +kernel, by decide, fun h => absurd h (by decide), fun _ => ⟨wd_ok (k := 1728) (by decide +kernel), wd_ok (k := 43) (by decide +kernel)⟩, fun h => absurd h (by decide)⟩
theorem k_Mo_readHeir : cOK m_Mo_readHeir 0 1 := ⟨List.mem_filter.mpr ⟨List.mem_of_getElem? (i := 1772) (by decide +kernel), rfl⟩, wd_ok (k := 144) (by decide +kernel), by decide +kernel, by decide, fun h => absurd h (by decide), fun _ => ⟨wd_ok (k := 1771) (by decide +kernel), wd_ok (k := 52) (by decide +kernel)⟩, fun h => absurd h (by decide)⟩
theorem k_Mo_things : cOK m_Mo_things 0 1 := ⟨List.mem_filter.mpr ⟨List.mem_of_getElem? (i := 1781) (by decide +kernel), rfl⟩, wd_ok (k := 144) (by decide +kernel), by decide +kernel, by decide, fun h => absurd h (by decide), fun _ => ⟨wd_ok (k := 1780) (by decide +kernel), wd_ok (k := 54) (by decide +kernel)⟩, fun h => absurd h (by decide)⟩
theorem k_Mo_thingAt : cOK m_Mo_thingAt 2 0 := ⟨List.mem_filter.mpr ⟨List.mem_of_getElem? (i := 1791) (by decide +kernel), rfl⟩, wd_ok (k := 144) (by decide +kernel), by decide +kernel, by decide, fun _ => wd_ok (k := 1790) (by decide +kernel), fun h => absurd h (by decide), fun h => absurd h (by decide)⟩
theorem k_Mo_lies : cOK m_Mo_lies 3 1 := ⟨List.mem_filter.mpr ⟨List.mem_of_getElem? (i := 1795) (by decide +kernel), rfl⟩, wd_ok (k := 144) (by decide +kernel), by decide +kernel, by decide, fun h => absurd h (by decide), fun _ => ⟨wd_ok (k := 1794) (by decide +kernel), wd_ok (k := 56) (by decide +kernel)⟩, fun h => absurd h (by decide)⟩
theorem k_Mo_isThing : cOK m_Mo_isThing 3 1 := ⟨List.mem_filter.mpr ⟨List.mem_of_getElem? (i := 1788) (by decide +kernel), rfl⟩, wd_ok (k := 144) (by decide +kernel), by decide +kernel, by decide, fun h => absurd h (by decide), fun _ => ⟨wd_ok (k := 1787) (by decide +kernel), wd_ok (k := 55) (by decide +kernel)⟩, fun h => absurd h (by decide)⟩
theorem k_Mo_ofThing : cOK m_Mo_ofThing 2 1 := ⟨List.mem_filter.mpr ⟨List.mem_of_getElem? (i := 1813) (by decide +kernel), rfl⟩, wd_ok (k := 144) (by decide +kernel), by decide +kernel, by decide, fun h => absurd h (by decide), fun _ => ⟨wd_ok (k := 1812) (by decide +kernel), wd_ok (k := 60) (by decide +kernel)⟩, fun h => absurd h (by decide)⟩
theorem k_Mo_isWith : cOK m_Mo_isWith 3 1 := ⟨List.mem_filter.mpr ⟨List.mem_of_getElem? (i := 1809) (by decide +kernel), rfl⟩, wd_ok (k := 144) (by decide +kernel), by decide +kernel, by decide, fun h => absurd h (by decide), fun _ => ⟨wd_ok (k := 1808) (by decide +kernel), wd_ok (k := 59) (by decide +kernel)⟩, fun h => absurd h (by decide)⟩
theorem k_Mo_heldBy : cOK m_Mo_heldBy 1 1 := ⟨List.mem_filter.mpr ⟨List.mem_of_getElem? (i := 1805) (by decide +kernel), rfl⟩, wd_ok (k := 144) (by decide +kernel), by decide +kernel, by decide, fun h => absurd h (by decide), fun _ => ⟨wd_ok (k := 1804) (by decide +kernel), wd_ok (k := 58) (by decide +kernel)⟩, fun h => absurd h (by decide)⟩
theorem k_Mo_readWhere : cOK m_Mo_readWhere 0 1 := ⟨List.mem_filter.mpr ⟨List.mem_of_getElem? (i := 1799) (by decide +kernel), rfl⟩, wd_ok (k := 144) (by decide +kernel), by decide +kernel, by decide, fun h => absurd h (by decide), fun _ => ⟨wd_ok (k := 1798) (by decide +kernel), wd_ok (k := 57) (by decide +kernel)⟩, fun h => absurd h (by decide)⟩
theorem k_Mo_readThing : cOK m_Mo_readThing 1 1 := ⟨List.mem_filter.mpr ⟨List.mem_of_getElem? (i := 1777) (by decide +kernel), rfl⟩, wd_ok (k := 144) (by decide +kernel), by decide +kernel, by decide, fun h => absurd h (by decide), fun _ => ⟨wd_ok (k := 1776) (by decide +kernel), wd_ok (k := 53) (by decide +kernel)⟩, fun h => absurd h (by decide)⟩
theorem k_Mo_readNumber : cOK m_Mo_readNumber 3 1 := ⟨List.mem_filter.mpr ⟨List.mem_of_getElem? (i := 1819) (by decide +kernel), rfl⟩, wd_ok (k := 144) (by decide +kernel), by decide +kernel, by decide, fun h => absurd h (by decide), fun _ => ⟨wd_ok (k := 1818) (by decide +kernel), wd_ok (k := 61) (by decide +kernel)⟩, fun h => absurd h (by decide)⟩
theorem k_Mo_readValleyLine : cOK m_Mo_readValleyLine 0 1 := ⟨List.mem_filter.mpr ⟨List.mem_of_getElem? (i := 1718) (by decide +kernel), rfl⟩, wd_ok (k := 144) (by decide +kernel), by decide +kernel, by decide, fun h => absurd h (by decide), fun _ => ⟨wd_ok (k := 1717) (by decide +kernel), wd_ok (k := 41) (by decide +kernel)⟩, fun h => absurd h (by decide)⟩
theorem k_Mo_sign : cOK m_Mo_sign 1 1 := ⟨List.mem_filter.mpr ⟨List.mem_of_getElem? (i := 1844) (by decide +kernel), rfl⟩, wd_ok (k := 144) (by decide +kernel), by decide +kernel, by decide, fun h => absurd h (by decide), fun _ => ⟨wd_ok (k := 1843) (by decide +kernel), wd_ok (k := 66) (by decide +kernel)⟩, fun h => absurd h (by decide)⟩
theorem k_Mo_emits : cOK m_Mo_emits 2 1 := ⟨List.mem_filter.mpr ⟨List.mem_of_getElem? (i := 1849) (by decide +kernel), rfl⟩, wd_ok (k := 144) (by decide +kernel), by decide +kernel, by decide, fun h => absurd h (by decide), fun _ => ⟨wd_ok (k := 1848) (by decide +kernel), wd_ok (k := 67) (by decide +kernel)⟩, fun h => absurd h (by decide)⟩
theorem k_Mo_readTag : cOK m_Mo_readTag 0 1 := ⟨List.mem_filter.mpr ⟨List.mem_of_getElem? (i := 1853) (by decide +kernel), rfl⟩, wd_ok (k := 144) (by decide +kernel), by decide +kernel, by decide, fun h => absurd h (by decide), fun _ => ⟨wd_ok (k := 1852) (by decide +kernel), wd_ok (k := 68) (by decide +kernel)⟩, fun h => absurd h (by decide)⟩
theorem k_Mo_wordOfPart : cOK m_Mo_wordOfPart 0 1 := ⟨List.mem_filter.mpr ⟨List.mem_of_getElem? (i := 1867) (by decide +kernel), rfl⟩, wd_ok (k := 144) (by decide +kernel), by decide +kernel, by decide, fun h => absurd h (by decide), fun _ => ⟨wd_ok (k := 1866) (by decide +kernel), wd_ok (k := 71) (by decide +kernel)⟩, fun h => absurd h (by decide)⟩
theorem k_Mo_readPart : cOK m_Mo_readPart 0 1 := ⟨List.mem_filter.mpr ⟨List.mem_of_getElem? (i := 1863) (by decide +kernel), rfl⟩, wd_ok (k := 144) (by decide +kernel), by decide +kernel, by decide, fun h => absurd h (by decide), fun _ => ⟨wd_ok (k := 1862) (by decide +kernel), wd_ok (k := 70) (by decide +kernel)⟩, fun h => absurd h (by decide)⟩
theorem k_Mo_readSum : cOK m_Mo_readSum 0 1 := ⟨List.mem_filter.mpr ⟨List.mem_of_getElem? (i := 1859) (by decide +kernel), rfl⟩, wd_ok (k := 144) (by decide +kernel), by decide +kernel, by decide, fun h => absurd h (by decide), fun _ => ⟨wd_ok (k := 1858) (by decide +kernel), wd_ok (k := 69) (by decide +kernel)⟩, fun h => absurd h (by decide)⟩
theorem k0_Mo_readAtom : cOK (m_Mo_readAtom 0) 0 1 := ⟨List.mem_filter.mpr ⟨List.mem_of_getElem? (i := 1840) (by decide +kernel), rfl⟩, wd_ok (k := 144) (by decide +kernel), by decide +kernel, by decide, fun h => absurd h (by decide), fun _ => ⟨wd_ok (k := 1839) (by decide +kernel), wd_ok (k := 65) (by decide +kernel)⟩, fun h => absurd h (by decide)⟩
theorem k_Mo_readAtom (d : Nat) : cOK (m_Mo_readAtom d) 0 1 := k0_Mo_readAtom
theorem k0_Mo_readAllOf : cOK (m_Mo_readAllOf 0) 0 1 := ⟨List.mem_filter.mpr ⟨List.mem_of_getElem? (i := 1836) (by decide +kernel), rfl⟩, wd_ok (k := 144) (by decide +kernel), by decide +kernel, by decide, fun h => absurd h (by decide), fun _ => ⟨wd_ok (k := 1835) (by decide +kernel), wd_ok (k := 64) (by decide +kernel)⟩, fun h => absurd h (by decide)⟩
theorem k_Mo_readAllOf (d : Nat) : cOK (m_Mo_readAllOf d) 0 1 := k0_Mo_readAllOf
theorem k0_Mo_readCond : cOK (m_Mo_readCond 0) 0 1 := ⟨List.mem_filter.mpr ⟨List.mem_of_getElem? (i := 1832) (by decide +kernel), rfl⟩, wd_ok (k := 144) (by decide +kernel), by decide +kernel, by decide, fun h => absurd h (by decide), fun _ => ⟨wd_ok (k := 1831) (by decide +kernel), wd_ok (k := 63) (by decide +kernel)⟩, fun h => absurd h (by decide)⟩
theorem k_Mo_readCond (d : Nat) : cOK (m_Mo_readCond d) 0 1 := k0_Mo_readCond
theorem k_Mo_readLawLine : cOK m_Mo_readLawLine 1 1 := ⟨List.mem_filter.mpr ⟨List.mem_of_getElem? (i := 1825) (by decide +kernel), rfl⟩, wd_ok (k := 144) (by decide +kernel), by decide +kernel, by decide, fun h => absurd h (by decide), fun _ => ⟨wd_ok (k := 1824) (by decide +kernel), wd_ok (k := 62) (by decide +kernel)⟩, fun h => absurd h (by decide)⟩
theorem k_Mo_readLine : cOK m_Mo_readLine 2 1 := ⟨List.mem_filter.mpr ⟨List.mem_of_getElem? (i := 1710) (by decide +kernel), rfl⟩, wd_ok (k := 144) (by decide +kernel), by decide +kernel, by decide, fun h => absurd h (by decide), fun _ => ⟨wd_ok (k := 1709) (by decide +kernel), wd_ok (k := 39) (by decide +kernel)⟩, fun h => absurd h (by decide)⟩
theorem k_Mo_readAll : cOK m_Mo_readAll 1 1 := ⟨List.mem_filter.mpr ⟨List.mem_of_getElem? (i := 1694) (by decide +kernel), rfl⟩, wd_ok (k := 144) (by decide +kernel), by decide +kernel, by decide, fun h => absurd h (by decide), fun _ => ⟨wd_ok (k := 1693) (by decide +kernel), wd_ok (k := 35) (by decide +kernel)⟩, fun h => absurd h (by decide)⟩
theorem k_Mo_throwsIf : cOK m_Mo_throwsIf 2 1 := ⟨List.mem_filter.mpr ⟨List.mem_of_getElem? (i := 1876) (by decide +kernel), rfl⟩, wd_ok (k := 144) (by decide +kernel), by decide +kernel, by decide, fun h => absurd h (by decide), fun _ => ⟨wd_ok (k := 1875) (by decide +kernel), wd_ok (k := 72) (by decide +kernel)⟩, fun h => absurd h (by decide)⟩
theorem k_Mo_valley : cOK m_Mo_valley 0 1 := ⟨List.mem_filter.mpr ⟨List.mem_of_getElem? (i := 1690) (by decide +kernel), rfl⟩, wd_ok (k := 144) (by decide +kernel), by decide +kernel, by decide, fun h => absurd h (by decide), fun _ => ⟨wd_ok (k := 1688) (by decide +kernel), wd_ok (k := 1689) (by decide +kernel)⟩, fun h => absurd h (by decide)⟩
theorem k_Mo_law : cOK m_Mo_law 0 1 := ⟨List.mem_filter.mpr ⟨List.mem_of_getElem? (i := 1880) (by decide +kernel), rfl⟩, wd_ok (k := 144) (by decide +kernel), by decide +kernel, by decide, fun h => absurd h (by decide), fun _ => ⟨wd_ok (k := 1878) (by decide +kernel), wd_ok (k := 1879) (by decide +kernel)⟩, fun h => absurd h (by decide)⟩
theorem k_Mo_in : cOK m_Mo_in 3 0 := ⟨List.mem_filter.mpr ⟨List.mem_of_getElem? (i := 1891) (by decide +kernel), rfl⟩, wd_ok (k := 144) (by decide +kernel), by decide +kernel, by decide, fun _ => wd_ok (k := 1890) (by decide +kernel), fun h => absurd h (by decide), fun h => absurd h (by decide)⟩
theorem k_Mo_noPerson : cOK m_Mo_noPerson 1 1 := ⟨List.mem_filter.mpr ⟨List.mem_of_getElem? (i := 1888) (by decide +kernel), rfl⟩, wd_ok (k := 144) (by decide +kernel), by decide +kernel, by decide, fun h => absurd h (by decide), fun _ => ⟨wd_ok (k := 1887) (by decide +kernel), wd_ok (k := 73) (by decide +kernel)⟩, fun h => absurd h (by decide)⟩
theorem k_Mo_ownedBy : cOK m_Mo_ownedBy 1 1 := ⟨List.mem_filter.mpr ⟨List.mem_of_getElem? (i := 1911) (by decide +kernel), rfl⟩, wd_ok (k := 144) (by decide +kernel), by decide +kernel, by decide, fun h => absurd h (by decide), fun _ => ⟨wd_ok (k := 1910) (by decide +kernel), wd_ok (k := 78) (by decide +kernel)⟩, fun h => absurd h (by decide)⟩
theorem k_Mo_onClothOf : cOK m_Mo_onClothOf 1 1 := ⟨List.mem_filter.mpr ⟨List.mem_of_getElem? (i := 1916) (by decide +kernel), rfl⟩, wd_ok (k := 144) (by decide +kernel), by decide +kernel, by decide, fun h => absurd h (by decide), fun _ => ⟨wd_ok (k := 1915) (by decide +kernel), wd_ok (k := 79) (by decide +kernel)⟩, fun h => absurd h (by decide)⟩
theorem k_Mo_allLiving : cOK m_Mo_allLiving 0 1 := ⟨List.mem_filter.mpr ⟨List.mem_of_getElem? (i := 1924) (by decide +kernel), rfl⟩, wd_ok (k := 144) (by decide +kernel), by decide +kernel, by decide, fun h => absurd h (by decide), fun _ => ⟨wd_ok (k := 1923) (by decide +kernel), wd_ok (k := 81) (by decide +kernel)⟩, fun h => absurd h (by decide)⟩
theorem k_Mo_successorOf : cOK m_Mo_successorOf 1 1 := ⟨List.mem_filter.mpr ⟨List.mem_of_getElem? (i := 1920) (by decide +kernel), rfl⟩, wd_ok (k := 144) (by decide +kernel), by decide +kernel, by decide, fun h => absurd h (by decide), fun _ => ⟨wd_ok (k := 1919) (by decide +kernel), wd_ok (k := 80) (by decide +kernel)⟩, fun h => absurd h (by decide)⟩
theorem k_Mo_factOf : cOK m_Mo_factOf 3 1 := ⟨List.mem_filter.mpr ⟨List.mem_of_getElem? (i := 1907) (by decide +kernel), rfl⟩, wd_ok (k := 144) (by decide +kernel), by decide +kernel, by decide, fun h => absurd h (by decide), fun _ => ⟨wd_ok (k := 1906) (by decide +kernel), wd_ok (k := 77) (by decide +kernel)⟩, fun h => absurd h (by decide)⟩
theorem k_Mo_holdsLine : cOK m_Mo_holdsLine 2 1 := ⟨List.mem_filter.mpr ⟨List.mem_of_getElem? (i := 1903) (by decide +kernel), rfl⟩, wd_ok (k := 144) (by decide +kernel), by decide +kernel, by decide, fun h => absurd h (by decide), fun _ => ⟨wd_ok (k := 1902) (by decide +kernel), wd_ok (k := 76) (by decide +kernel)⟩, fun h => absurd h (by decide)⟩
theorem k_Mo_sumOf : cOK m_Mo_sumOf 2 1 := ⟨List.mem_filter.mpr ⟨List.mem_of_getElem? (i := 1899) (by decide +kernel), rfl⟩, wd_ok (k := 144) (by decide +kernel), by decide +kernel, by decide, fun h => absurd h (by decide), fun _ => ⟨wd_ok (k := 1898) (by decide +kernel), wd_ok (k := 75) (by decide +kernel)⟩, fun h => absurd h (by decide)⟩
theorem k_Mo_gripsOf : cOK m_Mo_gripsOf 1 1 := ⟨List.mem_filter.mpr ⟨List.mem_of_getElem? (i := 1895) (by decide +kernel), rfl⟩, wd_ok (k := 144) (by decide +kernel), by decide +kernel, by decide, fun h => absurd h (by decide), fun _ => ⟨wd_ok (k := 1894) (by decide +kernel), wd_ok (k := 74) (by decide +kernel)⟩, fun h => absurd h (by decide)⟩
theorem k_Mo_failsOf : cOK m_Mo_failsOf 1 1 := ⟨List.mem_filter.mpr ⟨List.mem_of_getElem? (i := 1929) (by decide +kernel), rfl⟩, wd_ok (k := 144) (by decide +kernel), by decide +kernel, by decide, fun h => absurd h (by decide), fun _ => ⟨wd_ok (k := 1928) (by decide +kernel), wd_ok (k := 82) (by decide +kernel)⟩, fun h => absurd h (by decide)⟩
theorem k_Mo_estateOf : cOK m_Mo_estateOf 1 1 := ⟨List.mem_filter.mpr ⟨List.mem_of_getElem? (i := 1934) (by decide +kernel), rfl⟩, wd_ok (k := 144) (by decide +kernel), by decide +kernel, by decide, fun h => absurd h (by decide), fun _ => ⟨wd_ok (k := 1933) (by decide +kernel), wd_ok (k := 83) (by decide +kernel)⟩, fun h => absurd h (by decide)⟩
theorem k_Mo_has : cOK m_Mo_has 2 0 := ⟨List.mem_filter.mpr ⟨List.mem_of_getElem? (i := 1945) (by decide +kernel), rfl⟩, wd_ok (k := 144) (by decide +kernel), by decide +kernel, by decide, fun _ => wd_ok (k := 1944) (by decide +kernel), fun h => absurd h (by decide), fun h => absurd h (by decide)⟩
theorem k_Mo_worthOf : cOK m_Mo_worthOf 1 1 := ⟨List.mem_filter.mpr ⟨List.mem_of_getElem? (i := 1942) (by decide +kernel), rfl⟩, wd_ok (k := 144) (by decide +kernel), by decide +kernel, by decide, fun h => absurd h (by decide), fun _ => ⟨wd_ok (k := 1941) (by decide +kernel), wd_ok (k := 85) (by decide +kernel)⟩, fun h => absurd h (by decide)⟩
theorem k_Mo_lostOf : cOK m_Mo_lostOf 1 1 := ⟨List.mem_filter.mpr ⟨List.mem_of_getElem? (i := 1938) (by decide +kernel), rfl⟩, wd_ok (k := 144) (by decide +kernel), by decide +kernel, by decide, fun h => absurd h (by decide), fun _ => ⟨wd_ok (k := 1937) (by decide +kernel), wd_ok (k := 84) (by decide +kernel)⟩, fun h => absurd h (by decide)⟩
theorem k_Mo_lineOf : cOK m_Mo_lineOf 1 1 := ⟨List.mem_filter.mpr ⟨List.mem_of_getElem? (i := 1949) (by decide +kernel), rfl⟩, wd_ok (k := 144) (by decide +kernel), by decide +kernel, by decide, fun h => absurd h (by decide), fun _ => ⟨wd_ok (k := 1948) (by decide +kernel), wd_ok (k := 86) (by decide +kernel)⟩, fun h => absurd h (by decide)⟩
theorem k_Mo_hangsOn : cOK m_Mo_hangsOn 1 1 := ⟨List.mem_filter.mpr ⟨List.mem_of_getElem? (i := 1953) (by decide +kernel), rfl⟩, wd_ok (k := 144) (by decide +kernel), by decide +kernel, by decide, fun h => absurd h (by decide), fun _ => ⟨wd_ok (k := 1952) (by decide +kernel), wd_ok (k := 87) (by decide +kernel)⟩, fun h => absurd h (by decide)⟩
theorem k_Mo_canHold : cOK m_Mo_canHold 2 1 := ⟨List.mem_filter.mpr ⟨List.mem_of_getElem? (i := 1961) (by decide +kernel), rfl⟩, wd_ok (k := 144) (by decide +kernel), by decide +kernel, by decide, fun h => absurd h (by decide), fun _ => ⟨wd_ok (k := 1960) (by decide +kernel), wd_ok (k := 89) (by decide +kernel)⟩, fun h => absurd h (by decide)⟩
theorem k_Mo_hopedOf : cOK m_Mo_hopedOf 1 1 := ⟨List.mem_filter.mpr ⟨List.mem_of_getElem? (i := 1957) (by decide +kernel), rfl⟩, wd_ok (k := 144) (by decide +kernel), by decide +kernel, by decide, fun h => absurd h (by decide), fun _ => ⟨wd_ok (k := 1956) (by decide +kernel), wd_ok (k := 88) (by decide +kernel)⟩, fun h => absurd h (by decide)⟩
theorem k_Mo_likesMore : cOK m_Mo_likesMore 3 1 := ⟨List.mem_filter.mpr ⟨List.mem_of_getElem? (i := 1973) (by decide +kernel), rfl⟩, wd_ok (k := 144) (by decide +kernel), by decide +kernel, by decide, fun h => absurd h (by decide), fun _ => ⟨wd_ok (k := 1972) (by decide +kernel), wd_ok (k := 92) (by decide +kernel)⟩, fun h => absurd h (by decide)⟩
theorem k_Mo_comeRound : cOK m_Mo_comeRound 1 1 := ⟨List.mem_filter.mpr ⟨List.mem_of_getElem? (i := 1969) (by decide +kernel), rfl⟩, wd_ok (k := 144) (by decide +kernel), by decide +kernel, by decide, fun h => absurd h (by decide), fun _ => ⟨wd_ok (k := 1968) (by decide +kernel), wd_ok (k := 91) (by decide +kernel)⟩, fun h => absurd h (by decide)⟩
theorem k_Mo_coreOf : cOK m_Mo_coreOf 1 1 := ⟨List.mem_filter.mpr ⟨List.mem_of_getElem? (i := 1965) (by decide +kernel), rfl⟩, wd_ok (k := 144) (by decide +kernel), by decide +kernel, by decide, fun h => absurd h (by decide), fun _ => ⟨wd_ok (k := 1964) (by decide +kernel), wd_ok (k := 90) (by decide +kernel)⟩, fun h => absurd h (by decide)⟩
theorem k_Mo_worthOfAll : cOK m_Mo_worthOfAll 0 1 := ⟨List.mem_filter.mpr ⟨List.mem_of_getElem? (i := 1977) (by decide +kernel), rfl⟩, wd_ok (k := 144) (by decide +kernel), by decide +kernel, by decide, fun h => absurd h (by decide), fun _ => ⟨wd_ok (k := 1976) (by decide +kernel), wd_ok (k := 93) (by decide +kernel)⟩, fun h => absurd h (by decide)⟩
theorem k_Mo_person : cOK m_Mo_person 2 1 := ⟨List.mem_filter.mpr ⟨List.mem_of_getElem? (i := 1884) (by decide +kernel), rfl⟩, wd_ok (k := 144) (by decide +kernel), by decide +kernel, by decide, fun h => absurd h (by decide), fun _ => ⟨wd_ok (k := 1882) (by decide +kernel), wd_ok (k := 1883) (by decide +kernel)⟩, fun h => absurd h (by decide)⟩
theorem k_Mo_noThing : cOK m_Mo_noThing 1 1 := ⟨List.mem_filter.mpr ⟨List.mem_of_getElem? (i := 1985) (by decide +kernel), rfl⟩, wd_ok (k := 144) (by decide +kernel), by decide +kernel, by decide, fun h => absurd h (by decide), fun _ => ⟨wd_ok (k := 1984) (by decide +kernel), wd_ok (k := 94) (by decide +kernel)⟩, fun h => absurd h (by decide)⟩
theorem k_Mo_thing : cOK m_Mo_thing 2 1 := ⟨List.mem_filter.mpr ⟨List.mem_of_getElem? (i := 1981) (by decide +kernel), rfl⟩, wd_ok (k := 144) (by decide +kernel), by decide +kernel, by decide, fun h => absurd h (by decide), fun _ => ⟨wd_ok (k := 1979) (by decide +kernel), wd_ok (k := 1980) (by decide +kernel)⟩, fun h => absurd h (by decide)⟩
theorem k_Mo_noBoth : cOK m_Mo_noBoth 2 1 := ⟨List.mem_filter.mpr ⟨List.mem_of_getElem? (i := 1993) (by decide +kernel), rfl⟩, wd_ok (k := 144) (by decide +kernel), by decide +kernel, by decide, fun h => absurd h (by decide), fun _ => ⟨wd_ok (k := 1992) (by decide +kernel), wd_ok (k := 95) (by decide +kernel)⟩, fun h => absurd h (by decide)⟩
theorem k_Mo_shuts : cOK m_Mo_shuts 2 1 := ⟨List.mem_filter.mpr ⟨List.mem_of_getElem? (i := 1989) (by decide +kernel), rfl⟩, wd_ok (k := 144) (by decide +kernel), by decide +kernel, by decide, fun h => absurd h (by decide), fun _ => ⟨wd_ok (k := 1987) (by decide +kernel), wd_ok (k := 1988) (by decide +kernel)⟩, fun h => absurd h (by decide)⟩
theorem k_Mo_remembers : cOK m_Mo_remembers 0 1 := ⟨List.mem_filter.mpr ⟨List.mem_of_getElem? (i := 2001) (by decide +kernel), rfl⟩, wd_ok (k := 144) (by decide +kernel), by decide +kernel, by decide, fun h => absurd h (by decide), fun _ => ⟨wd_ok (k := 2000) (by decide +kernel), wd_ok (k := 96) (by decide +kernel)⟩, fun h => absurd h (by decide)⟩
theorem k_Mo_isTold : cOK m_Mo_isTold 3 1 := ⟨List.mem_filter.mpr ⟨List.mem_of_getElem? (i := 2017) (by decide +kernel), rfl⟩, wd_ok (k := 144) (by decide +kernel), by decide +kernel, by decide, fun h => absurd h (by decide), fun _ => ⟨wd_ok (k := 2016) (by decide +kernel), wd_ok (k := 100) (by decide +kernel)⟩, fun h => absurd h (by decide)⟩
theorem k_Mo_allLetGo : cOK m_Mo_allLetGo 0 1 := ⟨List.mem_filter.mpr ⟨List.mem_of_getElem? (i := 2013) (by decide +kernel), rfl⟩, wd_ok (k := 144) (by decide +kernel), by decide +kernel, by decide, fun h => absurd h (by decide), fun _ => ⟨wd_ok (k := 2012) (by decide +kernel), wd_ok (k := 99) (by decide +kernel)⟩, fun h => absurd h (by decide)⟩
theorem k_Mo_drawn : cOK m_Mo_drawn 1 1 := ⟨List.mem_filter.mpr ⟨List.mem_of_getElem? (i := 2025) (by decide +kernel), rfl⟩, wd_ok (k := 144) (by decide +kernel), by decide +kernel, by decide, fun h => absurd h (by decide), fun _ => ⟨wd_ok (k := 2024) (by decide +kernel), wd_ok (k := 102) (by decide +kernel)⟩, fun h => absurd h (by decide)⟩
theorem k_Mo_nthOf : cOK m_Mo_nthOf 2 0 := ⟨List.mem_filter.mpr ⟨List.mem_of_getElem? (i := 2029) (by decide +kernel), rfl⟩, wd_ok (k := 144) (by decide +kernel), by decide +kernel, by decide, fun _ => wd_ok (k := 2028) (by decide +kernel), fun h => absurd h (by decide), fun h => absurd h (by decide)⟩
theorem k_Mo_allFeel : cOK m_Mo_allFeel 0 1 := ⟨List.mem_filter.mpr ⟨List.mem_of_getElem? (i := 2021) (by decide +kernel), rfl⟩, wd_ok (k := 144) (by decide +kernel), by decide +kernel, by decide, fun h => absurd h (by decide), fun _ => ⟨wd_ok (k := 2020) (by decide +kernel), wd_ok (k := 101) (by decide +kernel)⟩, fun h => absurd h (by decide)⟩
theorem k_Mo_dies : cOK m_Mo_dies 1 1 := ⟨List.mem_filter.mpr ⟨List.mem_of_getElem? (i := 2041) (by decide +kernel), rfl⟩, wd_ok (k := 144) (by decide +kernel), by decide +kernel, by decide, fun h => absurd h (by decide), fun _ => ⟨wd_ok (k := 2040) (by decide +kernel), wd_ok (k := 104) (by decide +kernel)⟩, fun h => absurd h (by decide)⟩
theorem k_Mo_someDie : cOK m_Mo_someDie 0 1 := ⟨List.mem_filter.mpr ⟨List.mem_of_getElem? (i := 2037) (by decide +kernel), rfl⟩, wd_ok (k := 144) (by decide +kernel), by decide +kernel, by decide, fun h => absurd h (by decide), fun _ => ⟨wd_ok (k := 2036) (by decide +kernel), wd_ok (k := 103) (by decide +kernel)⟩, fun h => absurd h (by decide)⟩
theorem k_Mo_oneNight : cOK m_Mo_oneNight 1 1 := ⟨List.mem_filter.mpr ⟨List.mem_of_getElem? (i := 2009) (by decide +kernel), rfl⟩, wd_ok (k := 144) (by decide +kernel), by decide +kernel, by decide, fun h => absurd h (by decide), fun _ => ⟨wd_ok (k := 2008) (by decide +kernel), wd_ok (k := 98) (by decide +kernel)⟩, fun h => absurd h (by decide)⟩
theorem k_Mo_goesOn : cOK m_Mo_goesOn 2 1 := ⟨List.mem_filter.mpr ⟨List.mem_of_getElem? (i := 2005) (by decide +kernel), rfl⟩, wd_ok (k := 144) (by decide +kernel), by decide +kernel, by decide, fun h => absurd h (by decide), fun _ => ⟨wd_ok (k := 2004) (by decide +kernel), wd_ok (k := 97) (by decide +kernel)⟩, fun h => absurd h (by decide)⟩
theorem k_Mo_nights : cOK m_Mo_nights 1 1 := ⟨List.mem_filter.mpr ⟨List.mem_of_getElem? (i := 1997) (by decide +kernel), rfl⟩, wd_ok (k := 144) (by decide +kernel), by decide +kernel, by decide, fun h => absurd h (by decide), fun _ => ⟨wd_ok (k := 1995) (by decide +kernel), wd_ok (k := 1996) (by decide +kernel)⟩, fun h => absurd h (by decide)⟩
theorem k_Mo_isFree : cOK m_Mo_isFree 1 1 := ⟨List.mem_filter.mpr ⟨List.mem_of_getElem? (i := 2049) (by decide +kernel), rfl⟩, wd_ok (k := 144) (by decide +kernel), by decide +kernel, by decide, fun h => absurd h (by decide), fun _ => ⟨wd_ok (k := 2048) (by decide +kernel), wd_ok (k := 105) (by decide +kernel)⟩, fun h => absurd h (by decide)⟩
theorem k_Mo_lay : cOK m_Mo_lay 2 1 := ⟨List.mem_filter.mpr ⟨List.mem_of_getElem? (i := 2045) (by decide +kernel), rfl⟩, wd_ok (k := 144) (by decide +kernel), by decide +kernel, by decide, fun h => absurd h (by decide), fun _ => ⟨wd_ok (k := 2043) (by decide +kernel), wd_ok (k := 2044) (by decide +kernel)⟩, fun h => absurd h (by decide)⟩
theorem k_Mo_isPutBy : cOK m_Mo_isPutBy 1 1 := ⟨List.mem_filter.mpr ⟨List.mem_of_getElem? (i := 2057) (by decide +kernel), rfl⟩, wd_ok (k := 144) (by decide +kernel), by decide +kernel, by decide, fun h => absurd h (by decide), fun _ => ⟨wd_ok (k := 2056) (by decide +kernel), wd_ok (k := 106) (by decide +kernel)⟩, fun h => absurd h (by decide)⟩
theorem k_Mo_clear : cOK m_Mo_clear 1 1 := ⟨List.mem_filter.mpr ⟨List.mem_of_getElem? (i := 2053) (by decide +kernel), rfl⟩, wd_ok (k := 144) (by decide +kernel), by decide +kernel, by decide, fun h => absurd h (by decide), fun _ => ⟨wd_ok (k := 2051) (by decide +kernel), wd_ok (k := 2052) (by decide +kernel)⟩, fun h => absurd h (by decide)⟩
theorem k_Mo_wake : cOK m_Mo_wake 1 1 := ⟨List.mem_filter.mpr ⟨List.mem_of_getElem? (i := 2061) (by decide +kernel), rfl⟩, wd_ok (k := 144) (by decide +kernel), by decide +kernel, by decide, fun h => absurd h (by decide), fun _ => ⟨wd_ok (k := 2059) (by decide +kernel), wd_ok (k := 2060) (by decide +kernel)⟩, fun h => absurd h (by decide)⟩
theorem k_Mo_open : cOK m_Mo_open 1 1 := ⟨List.mem_filter.mpr ⟨List.mem_of_getElem? (i := 2065) (by decide +kernel), rfl⟩, wd_ok (k := 144) (by decide +kernel), by decide +kernel, by decide, fun h => absurd h (by decide), fun _ => ⟨wd_ok (k := 2063) (by decide +kernel), wd_ok (k := 2064) (by decide +kernel)⟩, fun h => absurd h (by decide)⟩
theorem k_Mo_holds : cOK m_Mo_holds 2 1 := ⟨List.mem_filter.mpr ⟨List.mem_of_getElem? (i := 2073) (by decide +kernel), rfl⟩, wd_ok (k := 144) (by decide +kernel), by decide +kernel, by decide, fun h => absurd h (by decide), fun _ => ⟨wd_ok (k := 2072) (by decide +kernel), wd_ok (k := 107) (by decide +kernel)⟩, fun h => absurd h (by decide)⟩
theorem k_Mo_swap : cOK m_Mo_swap 2 1 := ⟨List.mem_filter.mpr ⟨List.mem_of_getElem? (i := 2069) (by decide +kernel), rfl⟩, wd_ok (k := 144) (by decide +kernel), by decide +kernel, by decide, fun h => absurd h (by decide), fun _ => ⟨wd_ok (k := 2067) (by decide +kernel), wd_ok (k := 2068) (by decide +kernel)⟩, fun h => absurd h (by decide)⟩
theorem k_Mo_isNow : cOK m_Mo_isNow 2 1 := ⟨List.mem_filter.mpr ⟨List.mem_of_getElem? (i := 2081) (by decide +kernel), rfl⟩, wd_ok (k := 144) (by decide +kernel), by decide +kernel, by decide, fun h => absurd h (by decide), fun _ => ⟨wd_ok (k := 2080) (by decide +kernel), wd_ok (k := 108) (by decide +kernel)⟩, fun h => absurd h (by decide)⟩
theorem k_Mo_heir : cOK m_Mo_heir 2 1 := ⟨List.mem_filter.mpr ⟨List.mem_of_getElem? (i := 2077) (by decide +kernel), rfl⟩, wd_ok (k := 144) (by decide +kernel), by decide +kernel, by decide, fun h => absurd h (by decide), fun _ => ⟨wd_ok (k := 2075) (by decide +kernel), wd_ok (k := 2076) (by decide +kernel)⟩, fun h => absurd h (by decide)⟩
theorem k_Mo_tie : cOK m_Mo_tie 2 1 := ⟨List.mem_filter.mpr ⟨List.mem_of_getElem? (i := 2085) (by decide +kernel), rfl⟩, wd_ok (k := 144) (by decide +kernel), by decide +kernel, by decide, fun h => absurd h (by decide), fun _ => ⟨wd_ok (k := 2083) (by decide +kernel), wd_ok (k := 2084) (by decide +kernel)⟩, fun h => absurd h (by decide)⟩
theorem k_Mo_born : cOK m_Mo_born 1 1 := ⟨List.mem_filter.mpr ⟨List.mem_of_getElem? (i := 2089) (by decide +kernel), rfl⟩, wd_ok (k := 144) (by decide +kernel), by decide +kernel, by decide, fun h => absurd h (by decide), fun _ => ⟨wd_ok (k := 2087) (by decide +kernel), wd_ok (k := 2088) (by decide +kernel)⟩, fun h => absurd h (by decide)⟩
theorem k_Mo_give : cOK m_Mo_give 2 1 := ⟨List.mem_filter.mpr ⟨List.mem_of_getElem? (i := 2093) (by decide +kernel), rfl⟩, wd_ok (k := 144) (by decide +kernel), by decide +kernel, by decide, fun h => absurd h (by decide), fun _ => ⟨wd_ok (k := 2091) (by decide +kernel), wd_ok (k := 2092) (by decide +kernel)⟩, fun h => absurd h (by decide)⟩
theorem k_Mo_sizeOf : cOK m_Mo_sizeOf 1 1 := ⟨List.mem_filter.mpr ⟨List.mem_of_getElem? (i := 2101) (by decide +kernel), rfl⟩, wd_ok (k := 144) (by decide +kernel), by decide +kernel, by decide, fun h => absurd h (by decide), fun _ => ⟨wd_ok (k := 2100) (by decide +kernel), wd_ok (k := 109) (by decide +kernel)⟩, fun h => absurd h (by decide)⟩
theorem k_Mo_isBetter : cOK m_Mo_isBetter 2 1 := ⟨List.mem_filter.mpr ⟨List.mem_of_getElem? (i := 2105) (by decide +kernel), rfl⟩, wd_ok (k := 144) (by decide +kernel), by decide +kernel, by decide, fun h => absurd h (by decide), fun _ => ⟨wd_ok (k := 2104) (by decide +kernel), wd_ok (k := 110) (by decide +kernel)⟩, fun h => absurd h (by decide)⟩
theorem k_Mo_hoard : cOK m_Mo_hoard 3 1 := ⟨List.mem_filter.mpr ⟨List.mem_of_getElem? (i := 2097) (by decide +kernel), rfl⟩, wd_ok (k := 144) (by decide +kernel), by decide +kernel, by decide, fun h => absurd h (by decide), fun _ => ⟨wd_ok (k := 2095) (by decide +kernel), wd_ok (k := 2096) (by decide +kernel)⟩, fun h => absurd h (by decide)⟩
theorem k_Mo_round : cOK m_Mo_round 0 1 := ⟨List.mem_filter.mpr ⟨List.mem_of_getElem? (i := 2109) (by decide +kernel), rfl⟩, wd_ok (k := 144) (by decide +kernel), by decide +kernel, by decide, fun h => absurd h (by decide), fun _ => ⟨wd_ok (k := 2107) (by decide +kernel), wd_ok (k := 2108) (by decide +kernel)⟩, fun h => absurd h (by decide)⟩
theorem k_Mo_escheat : cOK m_Mo_escheat 0 1 := ⟨List.mem_filter.mpr ⟨List.mem_of_getElem? (i := 2113) (by decide +kernel), rfl⟩, wd_ok (k := 144) (by decide +kernel), by decide +kernel, by decide, fun h => absurd h (by decide), fun _ => ⟨wd_ok (k := 2111) (by decide +kernel), wd_ok (k := 2112) (by decide +kernel)⟩, fun h => absurd h (by decide)⟩
theorem k_Mo_areWatched : cOK m_Mo_areWatched 1 1 := ⟨List.mem_filter.mpr ⟨List.mem_of_getElem? (i := 2121) (by decide +kernel), rfl⟩, wd_ok (k := 144) (by decide +kernel), by decide +kernel, by decide, fun h => absurd h (by decide), fun _ => ⟨wd_ok (k := 2120) (by decide +kernel), wd_ok (k := 111) (by decide +kernel)⟩, fun h => absurd h (by decide)⟩
theorem k_Mo_watch : cOK m_Mo_watch 0 1 := ⟨List.mem_filter.mpr ⟨List.mem_of_getElem? (i := 2117) (by decide +kernel), rfl⟩, wd_ok (k := 144) (by decide +kernel), by decide +kernel, by decide, fun h => absurd h (by decide), fun _ => ⟨wd_ok (k := 2115) (by decide +kernel), wd_ok (k := 2116) (by decide +kernel)⟩, fun h => absurd h (by decide)⟩
theorem k_Mo_putAt : cOK m_Mo_putAt 2 0 := ⟨List.mem_filter.mpr ⟨List.mem_of_getElem? (i := 2128) (by decide +kernel), rfl⟩, wd_ok (k := 144) (by decide +kernel), by decide +kernel, by decide, fun _ => wd_ok (k := 2127) (by decide +kernel), fun h => absurd h (by decide), fun h => absurd h (by decide)⟩
theorem k_Mo_putIf : cOK m_Mo_putIf 3 1 := ⟨List.mem_filter.mpr ⟨List.mem_of_getElem? (i := 2132) (by decide +kernel), rfl⟩, wd_ok (k := 144) (by decide +kernel), by decide +kernel, by decide, fun h => absurd h (by decide), fun _ => ⟨wd_ok (k := 2131) (by decide +kernel), wd_ok (k := 112) (by decide +kernel)⟩, fun h => absurd h (by decide)⟩
theorem k_Mo_put : cOK m_Mo_put 1 1 := ⟨List.mem_filter.mpr ⟨List.mem_of_getElem? (i := 2125) (by decide +kernel), rfl⟩, wd_ok (k := 144) (by decide +kernel), by decide +kernel, by decide, fun h => absurd h (by decide), fun _ => ⟨wd_ok (k := 2123) (by decide +kernel), wd_ok (k := 2124) (by decide +kernel)⟩, fun h => absurd h (by decide)⟩
theorem k_Mo_isHeld : cOK m_Mo_isHeld 0 1 := ⟨List.mem_filter.mpr ⟨List.mem_of_getElem? (i := 2140) (by decide +kernel), rfl⟩, wd_ok (k := 144) (by decide +kernel), by decide +kernel, by decide, fun h => absurd h (by decide), fun _ => ⟨wd_ok (k := 2139) (by decide +kernel), wd_ok (k := 113) (by decide +kernel)⟩, fun h => absurd h (by decide)⟩
theorem k_Mo_whatOf : cOK m_Mo_whatOf 2 1 := ⟨List.mem_filter.mpr ⟨List.mem_of_getElem? (i := 2152) (by decide +kernel), rfl⟩, wd_ok (k := 144) (by decide +kernel), by decide +kernel, by decide, fun h => absurd h (by decide), fun _ => ⟨wd_ok (k := 2151) (by decide +kernel), wd_ok (k := 116) (by decide +kernel)⟩, fun h => absurd h (by decide)⟩
theorem k_Mo_wrongRows : cOK m_Mo_wrongRows 1 1 := ⟨List.mem_filter.mpr ⟨List.mem_of_getElem? (i := 2148) (by decide +kernel), rfl⟩, wd_ok (k := 144) (by decide +kernel), by decide +kernel, by decide, fun h => absurd h (by decide), fun _ => ⟨wd_ok (k := 2147) (by decide +kernel), wd_ok (k := 115) (by decide +kernel)⟩, fun h => absurd h (by decide)⟩
theorem k_Mo_thatFit : cOK m_Mo_thatFit 0 1 := ⟨List.mem_filter.mpr ⟨List.mem_of_getElem? (i := 2144) (by decide +kernel), rfl⟩, wd_ok (k := 144) (by decide +kernel), by decide +kernel, by decide, fun h => absurd h (by decide), fun _ => ⟨wd_ok (k := 2143) (by decide +kernel), wd_ok (k := 114) (by decide +kernel)⟩, fun h => absurd h (by decide)⟩
theorem k_Mo_held : cOK m_Mo_held 0 1 := ⟨List.mem_filter.mpr ⟨List.mem_of_getElem? (i := 2136) (by decide +kernel), rfl⟩, wd_ok (k := 144) (by decide +kernel), by decide +kernel, by decide, fun h => absurd h (by decide), fun _ => ⟨wd_ok (k := 2134) (by decide +kernel), wd_ok (k := 2135) (by decide +kernel)⟩, fun h => absurd h (by decide)⟩
theorem k_Mo_likely : cOK m_Mo_likely 0 1 := ⟨List.mem_filter.mpr ⟨List.mem_of_getElem? (i := 2156) (by decide +kernel), rfl⟩, wd_ok (k := 144) (by decide +kernel), by decide +kernel, by decide, fun h => absurd h (by decide), fun _ => ⟨wd_ok (k := 2154) (by decide +kernel), wd_ok (k := 2155) (by decide +kernel)⟩, fun h => absurd h (by decide)⟩
theorem k_Mo_partOf : cOK m_Mo_partOf 2 1 := ⟨List.mem_filter.mpr ⟨List.mem_of_getElem? (i := 2165) (by decide +kernel), rfl⟩, wd_ok (k := 144) (by decide +kernel), by decide +kernel, by decide, fun h => absurd h (by decide), fun _ => ⟨wd_ok (k := 2164) (by decide +kernel), wd_ok (k := 117) (by decide +kernel)⟩, fun h => absurd h (by decide)⟩
theorem k_Mo_ask : cOK m_Mo_ask 0 1 := ⟨List.mem_filter.mpr ⟨List.mem_of_getElem? (i := 2160) (by decide +kernel), rfl⟩, wd_ok (k := 144) (by decide +kernel), by decide +kernel, by decide, fun h => absurd h (by decide), fun _ => ⟨wd_ok (k := 2158) (by decide +kernel), wd_ok (k := 2159) (by decide +kernel)⟩, fun h => absurd h (by decide)⟩
theorem k_Mo_isStrong : cOK m_Mo_isStrong 0 1 := ⟨List.mem_filter.mpr ⟨List.mem_of_getElem? (i := 2173) (by decide +kernel), rfl⟩, wd_ok (k := 144) (by decide +kernel), by decide +kernel, by decide, fun h => absurd h (by decide), fun _ => ⟨wd_ok (k := 2172) (by decide +kernel), wd_ok (k := 118) (by decide +kernel)⟩, fun h => absurd h (by decide)⟩
theorem k_Mo_wrongTries : cOK m_Mo_wrongTries 1 1 := ⟨List.mem_filter.mpr ⟨List.mem_of_getElem? (i := 2177) (by decide +kernel), rfl⟩, wd_ok (k := 144) (by decide +kernel), by decide +kernel, by decide, fun h => absurd h (by decide), fun _ => ⟨wd_ok (k := 2176) (by decide +kernel), wd_ok (k := 119) (by decide +kernel)⟩, fun h => absurd h (by decide)⟩
theorem k_Mo_manyStrong : cOK m_Mo_manyStrong 1 1 := ⟨List.mem_filter.mpr ⟨List.mem_of_getElem? (i := 2181) (by decide +kernel), rfl⟩, wd_ok (k := 144) (by decide +kernel), by decide +kernel, by decide, fun h => absurd h (by decide), fun _ => ⟨wd_ok (k := 2180) (by decide +kernel), wd_ok (k := 120) (by decide +kernel)⟩, fun h => absurd h (by decide)⟩
theorem k_Mo_strong : cOK m_Mo_strong 1 1 := ⟨List.mem_filter.mpr ⟨List.mem_of_getElem? (i := 2169) (by decide +kernel), rfl⟩, wd_ok (k := 144) (by decide +kernel), by decide +kernel, by decide, fun h => absurd h (by decide), fun _ => ⟨wd_ok (k := 2167) (by decide +kernel), wd_ok (k := 2168) (by decide +kernel)⟩, fun h => absurd h (by decide)⟩
theorem k_Mo_test : cOK m_Mo_test 0 1 := ⟨List.mem_filter.mpr ⟨List.mem_of_getElem? (i := 2185) (by decide +kernel), rfl⟩, wd_ok (k := 144) (by decide +kernel), by decide +kernel, by decide, fun h => absurd h (by decide), fun _ => ⟨wd_ok (k := 2183) (by decide +kernel), wd_ok (k := 2184) (by decide +kernel)⟩, fun h => absurd h (by decide)⟩
theorem k_Mo_isFingers : cOK m_Mo_isFingers 1 1 := ⟨List.mem_filter.mpr ⟨List.mem_of_getElem? (i := 2193) (by decide +kernel), rfl⟩, wd_ok (k := 144) (by decide +kernel), by decide +kernel, by decide, fun h => absurd h (by decide), fun _ => ⟨wd_ok (k := 2192) (by decide +kernel), wd_ok (k := 121) (by decide +kernel)⟩, fun h => absurd h (by decide)⟩
theorem k_Mo_laysWins : cOK m_Mo_laysWins 0 1 := ⟨List.mem_filter.mpr ⟨List.mem_of_getElem? (i := 2197) (by decide +kernel), rfl⟩, wd_ok (k := 144) (by decide +kernel), by decide +kernel, by decide, fun h => absurd h (by decide), fun _ => ⟨wd_ok (k := 2196) (by decide +kernel), wd_ok (k := 122) (by decide +kernel)⟩, fun h => absurd h (by decide)⟩
theorem k_Mo_fingers : cOK m_Mo_fingers 1 1 := ⟨List.mem_filter.mpr ⟨List.mem_of_getElem? (i := 2189) (by decide +kernel), rfl⟩, wd_ok (k := 144) (by decide +kernel), by decide +kernel, by decide, fun h => absurd h (by decide), fun _ => ⟨wd_ok (k := 2187) (by decide +kernel), wd_ok (k := 2188) (by decide +kernel)⟩, fun h => absurd h (by decide)⟩
theorem k_Mo_opens : cOK m_Mo_opens 1 1 := ⟨List.mem_filter.mpr ⟨List.mem_of_getElem? (i := 2201) (by decide +kernel), rfl⟩, wd_ok (k := 144) (by decide +kernel), by decide +kernel, by decide, fun h => absurd h (by decide), fun _ => ⟨wd_ok (k := 2199) (by decide +kernel), wd_ok (k := 2200) (by decide +kernel)⟩, fun h => absurd h (by decide)⟩
theorem k_Mo_firstOf : cOK m_Mo_firstOf 1 0 := ⟨List.mem_filter.mpr ⟨List.mem_of_getElem? (i := 2216) (by decide +kernel), rfl⟩, wd_ok (k := 144) (by decide +kernel), by decide +kernel, by decide, fun _ => wd_ok (k := 2215) (by decide +kernel), fun h => absurd h (by decide), fun h => absurd h (by decide)⟩
theorem k_Mo_canPair : cOK m_Mo_canPair 2 1 := ⟨List.mem_filter.mpr ⟨List.mem_of_getElem? (i := 2220) (by decide +kernel), rfl⟩, wd_ok (k := 144) (by decide +kernel), by decide +kernel, by decide, fun h => absurd h (by decide), fun _ => ⟨wd_ok (k := 2219) (by decide +kernel), wd_ok (k := 125) (by decide +kernel)⟩, fun h => absurd h (by decide)⟩
theorem k_Mo_pairedBy : cOK m_Mo_pairedBy 2 1 := ⟨List.mem_filter.mpr ⟨List.mem_of_getElem? (i := 2213) (by decide +kernel), rfl⟩, wd_ok (k := 144) (by decide +kernel), by decide +kernel, by decide, fun h => absurd h (by decide), fun _ => ⟨wd_ok (k := 2212) (by decide +kernel), wd_ok (k := 124) (by decide +kernel)⟩, fun h => absurd h (by decide)⟩
theorem k_Mo_laysPairs : cOK m_Mo_laysPairs 0 1 := ⟨List.mem_filter.mpr ⟨List.mem_of_getElem? (i := 2209) (by decide +kernel), rfl⟩, wd_ok (k := 144) (by decide +kernel), by decide +kernel, by decide, fun h => absurd h (by decide), fun _ => ⟨wd_ok (k := 2208) (by decide +kernel), wd_ok (k := 123) (by decide +kernel)⟩, fun h => absurd h (by decide)⟩
theorem k_Mo_pairs : cOK m_Mo_pairs 1 1 := ⟨List.mem_filter.mpr ⟨List.mem_of_getElem? (i := 2205) (by decide +kernel), rfl⟩, wd_ok (k := 144) (by decide +kernel), by decide +kernel, by decide, fun h => absurd h (by decide), fun _ => ⟨wd_ok (k := 2203) (by decide +kernel), wd_ok (k := 2204) (by decide +kernel)⟩, fun h => absurd h (by decide)⟩
theorem k_Mo_heirHas : cOK m_Mo_heirHas 3 1 := ⟨List.mem_filter.mpr ⟨List.mem_of_getElem? (i := 2228) (by decide +kernel), rfl⟩, wd_ok (k := 144) (by decide +kernel), by decide +kernel, by decide, fun h => absurd h (by decide), fun _ => ⟨wd_ok (k := 2227) (by decide +kernel), wd_ok (k := 126) (by decide +kernel)⟩, fun h => absurd h (by decide)⟩
theorem k_Mo_nurseHas : cOK m_Mo_nurseHas 3 1 := ⟨List.mem_filter.mpr ⟨List.mem_of_getElem? (i := 2232) (by decide +kernel), rfl⟩, wd_ok (k := 144) (by decide +kernel), by decide +kernel, by decide, fun h => absurd h (by decide), fun _ => ⟨wd_ok (k := 2231) (by decide +kernel), wd_ok (k := 127) (by decide +kernel)⟩, fun h => absurd h (by decide)⟩
theorem k_Mo_rests : cOK m_Mo_rests 1 1 := ⟨List.mem_filter.mpr ⟨List.mem_of_getElem? (i := 2224) (by decide +kernel), rfl⟩, wd_ok (k := 144) (by decide +kernel), by decide +kernel, by decide, fun h => absurd h (by decide), fun _ => ⟨wd_ok (k := 2222) (by decide +kernel), wd_ok (k := 2223) (by decide +kernel)⟩, fun h => absurd h (by decide)⟩
theorem k_Mo_odds : cOK m_Mo_odds 1 1 := ⟨List.mem_filter.mpr ⟨List.mem_of_getElem? (i := 2236) (by decide +kernel), rfl⟩, wd_ok (k := 144) (by decide +kernel), by decide +kernel, by decide, fun h => absurd h (by decide), fun _ => ⟨wd_ok (k := 2234) (by decide +kernel), wd_ok (k := 2235) (by decide +kernel)⟩, fun h => absurd h (by decide)⟩
theorem k_Mo_amountOf : cOK m_Mo_amountOf 2 1 := ⟨List.mem_filter.mpr ⟨List.mem_of_getElem? (i := 2244) (by decide +kernel), rfl⟩, wd_ok (k := 144) (by decide +kernel), by decide +kernel, by decide, fun h => absurd h (by decide), fun _ => ⟨wd_ok (k := 2243) (by decide +kernel), wd_ok (k := 128) (by decide +kernel)⟩, fun h => absurd h (by decide)⟩
theorem k_Mo_most : cOK m_Mo_most 1 1 := ⟨List.mem_filter.mpr ⟨List.mem_of_getElem? (i := 2240) (by decide +kernel), rfl⟩, wd_ok (k := 144) (by decide +kernel), by decide +kernel, by decide, fun h => absurd h (by decide), fun _ => ⟨wd_ok (k := 2238) (by decide +kernel), wd_ok (k := 2239) (by decide +kernel)⟩, fun h => absurd h (by decide)⟩
theorem k_Mo_living : cOK m_Mo_living 0 1 := ⟨List.mem_filter.mpr ⟨List.mem_of_getElem? (i := 2248) (by decide +kernel), rfl⟩, wd_ok (k := 144) (by decide +kernel), by decide +kernel, by decide, fun h => absurd h (by decide), fun _ => ⟨wd_ok (k := 2246) (by decide +kernel), wd_ok (k := 2247) (by decide +kernel)⟩, fun h => absurd h (by decide)⟩
theorem k_Mo_idle : cOK m_Mo_idle 0 1 := ⟨List.mem_filter.mpr ⟨List.mem_of_getElem? (i := 2252) (by decide +kernel), rfl⟩, wd_ok (k := 144) (by decide +kernel), by decide +kernel, by decide, fun h => absurd h (by decide), fun _ => ⟨wd_ok (k := 2250) (by decide +kernel), wd_ok (k := 2251) (by decide +kernel)⟩, fun h => absurd h (by decide)⟩
theorem k_Mo_crown : cOK m_Mo_crown 0 1 := ⟨List.mem_filter.mpr ⟨List.mem_of_getElem? (i := 2256) (by decide +kernel), rfl⟩, wd_ok (k := 144) (by decide +kernel), by decide +kernel, by decide, fun h => absurd h (by decide), fun _ => ⟨wd_ok (k := 2254) (by decide +kernel), wd_ok (k := 2255) (by decide +kernel)⟩, fun h => absurd h (by decide)⟩
theorem k_Mo_wealth : cOK m_Mo_wealth 0 1 := ⟨List.mem_filter.mpr ⟨List.mem_of_getElem? (i := 2260) (by decide +kernel), rfl⟩, wd_ok (k := 144) (by decide +kernel), by decide +kernel, by decide, fun h => absurd h (by decide), fun _ => ⟨wd_ok (k := 2258) (by decide +kernel), wd_ok (k := 2259) (by decide +kernel)⟩, fun h => absurd h (by decide)⟩
theorem k_Mo_twins : cOK m_Mo_twins 0 1 := ⟨List.mem_filter.mpr ⟨List.mem_of_getElem? (i := 2264) (by decide +kernel), rfl⟩, wd_ok (k := 144) (by decide +kernel), by decide +kernel, by decide, fun h => absurd h (by decide), fun _ => ⟨wd_ok (k := 2262) (by decide +kernel), wd_ok (k := 2263) (by decide +kernel)⟩, fun h => absurd h (by decide)⟩
theorem k_Mo_noNights : cOK m_Mo_noNights 1 0 := ⟨List.mem_filter.mpr ⟨List.mem_of_getElem? (i := 2271) (by decide +kernel), rfl⟩, wd_ok (k := 144) (by decide +kernel), by decide +kernel, by decide, fun _ => wd_ok (k := 2270) (by decide +kernel), fun h => absurd h (by decide), fun h => absurd h (by decide)⟩
theorem k_Mo_keepsAll : cOK m_Mo_keepsAll 0 1 := ⟨List.mem_filter.mpr ⟨List.mem_of_getElem? (i := 2275) (by decide +kernel), rfl⟩, wd_ok (k := 144) (by decide +kernel), by decide +kernel, by decide, fun h => absurd h (by decide), fun _ => ⟨wd_ok (k := 2274) (by decide +kernel), wd_ok (k := 129) (by decide +kernel)⟩, fun h => absurd h (by decide)⟩
theorem k_Mo_bringsBack : cOK m_Mo_bringsBack 0 1 := ⟨List.mem_filter.mpr ⟨List.mem_of_getElem? (i := 2279) (by decide +kernel), rfl⟩, wd_ok (k := 144) (by decide +kernel), by decide +kernel, by decide, fun h => absurd h (by decide), fun _ => ⟨wd_ok (k := 2278) (by decide +kernel), wd_ok (k := 130) (by decide +kernel)⟩, fun h => absurd h (by decide)⟩
theorem k_Mo_ahead : cOK m_Mo_ahead 2 1 := ⟨List.mem_filter.mpr ⟨List.mem_of_getElem? (i := 2268) (by decide +kernel), rfl⟩, wd_ok (k := 144) (by decide +kernel), by decide +kernel, by decide, fun h => absurd h (by decide), fun _ => ⟨wd_ok (k := 2266) (by decide +kernel), wd_ok (k := 2267) (by decide +kernel)⟩, fun h => absurd h (by decide)⟩
theorem k_Mo_trial : cOK m_Mo_trial 2 1 := ⟨List.mem_filter.mpr ⟨List.mem_of_getElem? (i := 2283) (by decide +kernel), rfl⟩, wd_ok (k := 144) (by decide +kernel), by decide +kernel, by decide, fun h => absurd h (by decide), fun _ => ⟨wd_ok (k := 2281) (by decide +kernel), wd_ok (k := 2282) (by decide +kernel)⟩, fun h => absurd h (by decide)⟩
theorem k_Mo_span : cOK m_Mo_span 2 1 := ⟨List.mem_filter.mpr ⟨List.mem_of_getElem? (i := 2287) (by decide +kernel), rfl⟩, wd_ok (k := 144) (by decide +kernel), by decide +kernel, by decide, fun h => absurd h (by decide), fun _ => ⟨wd_ok (k := 2285) (by decide +kernel), wd_ok (k := 2286) (by decide +kernel)⟩, fun h => absurd h (by decide)⟩
theorem k_Mo_ofLog : cOK m_Mo_ofLog 2 1 := ⟨List.mem_filter.mpr ⟨List.mem_of_getElem? (i := 2295) (by decide +kernel), rfl⟩, wd_ok (k := 144) (by decide +kernel), by decide +kernel, by decide, fun h => absurd h (by decide), fun _ => ⟨wd_ok (k := 2294) (by decide +kernel), wd_ok (k := 131) (by decide +kernel)⟩, fun h => absurd h (by decide)⟩
theorem k_Mo_led : cOK m_Mo_led 2 1 := ⟨List.mem_filter.mpr ⟨List.mem_of_getElem? (i := 2291) (by decide +kernel), rfl⟩, wd_ok (k := 144) (by decide +kernel), by decide +kernel, by decide, fun h => absurd h (by decide), fun _ => ⟨wd_ok (k := 2289) (by decide +kernel), wd_ok (k := 2290) (by decide +kernel)⟩, fun h => absurd h (by decide)⟩
theorem k_Mo_log : cOK m_Mo_log 2 1 := ⟨List.mem_filter.mpr ⟨List.mem_of_getElem? (i := 2299) (by decide +kernel), rfl⟩, wd_ok (k := 144) (by decide +kernel), by decide +kernel, by decide, fun h => absurd h (by decide), fun _ => ⟨wd_ok (k := 2297) (by decide +kernel), wd_ok (k := 2298) (by decide +kernel)⟩, fun h => absurd h (by decide)⟩
theorem k_Mo_seed : cOK m_Mo_seed 1 1 := ⟨List.mem_filter.mpr ⟨List.mem_of_getElem? (i := 2303) (by decide +kernel), rfl⟩, wd_ok (k := 144) (by decide +kernel), by decide +kernel, by decide, fun h => absurd h (by decide), fun _ => ⟨wd_ok (k := 2301) (by decide +kernel), wd_ok (k := 2302) (by decide +kernel)⟩, fun h => absurd h (by decide)⟩
theorem k_Mo_manyIn : cOK m_Mo_manyIn 1 1 := ⟨List.mem_filter.mpr ⟨List.mem_of_getElem? (i := 2311) (by decide +kernel), rfl⟩, wd_ok (k := 144) (by decide +kernel), by decide +kernel, by decide, fun h => absurd h (by decide), fun _ => ⟨wd_ok (k := 2310) (by decide +kernel), wd_ok (k := 132) (by decide +kernel)⟩, fun h => absurd h (by decide)⟩
theorem k_Mo_count : cOK m_Mo_count 1 1 := ⟨List.mem_filter.mpr ⟨List.mem_of_getElem? (i := 2307) (by decide +kernel), rfl⟩, wd_ok (k := 144) (by decide +kernel), by decide +kernel, by decide, fun h => absurd h (by decide), fun _ => ⟨wd_ok (k := 2305) (by decide +kernel), wd_ok (k := 2306) (by decide +kernel)⟩, fun h => absurd h (by decide)⟩
end
section
def tb_Ta_init : List Ent := [(0, .aload_n 0, 1, 2, 0, 0, 0, 0, 0), (1, .invokespecial 3, 3, 46, 0, 0, 0, 176, 0), (4, .aload_n 0, 1, 2, 0, 0, 0, 0, 0), (5, .sipush 400, 3, 5, 0, 0, 0, 0, 400), (8, .newarray .int, 2, 35, 0, 0, 0, 190, 0), (10, .putfield 11, 3, 24, 5, 0, 2, 177, 0), (13, .aload_n 0, 1, 2, 0, 0, 0, 0, 0), (14, .iconst 0, 1, 5, 0, 0, 0, 0, 0), (15, .putfield 15, 3, 24, 5, 1, 0, 178, 0), (18, .aload_n 0, 1, 2, 0, 0, 0, 0, 0), (19, .iconst 0, 1, 5, 0, 0, 0, 0, 0), (20, .putfield 19, 3, 24, 5, 2, 0, 180, 0), (23, .return_, 1, 49, 0, 0, 0, 0, 0)]
def cl_Ta_init : List (Mr × Nat × Nat) := []
def ct_Ta_init : List (Nat × List Nat) := [(2, []), (6, []), (9, [])]
def sw_Ta_init : List (List Nat) := []
set_option maxRecDepth 100000 in
theorem tk_Ta_init : TOK m_Ta_init cl_Ta_init sw_Ta_init tb_Ta_init := ⟨tokB_ok (by decide +kernel), fun _ h => nomatch h⟩
def tb_Td_init : List Ent := [(0, .aload_n 0, 1, 2, 0, 0, 0, 0, 0), (1, .invokespecial 3, 3, 46, 0, 0, 0, 196, 0), (4, .aload_n 0, 1, 2, 0, 0, 0, 0, 0), (5, .bipush 100, 2, 5, 0, 0, 0, 0, 100), (7, .newarray .boolean, 2, 35, 1, 0, 0, 201, 0), (9, .putfield 9, 3, 24, 6, 0, 2, 197, 0), (12, .return_, 1, 49, 0, 0, 0, 0, 0)]
def cl_Td_init : List (Mr × Nat × Nat) := []
def ct_Td_init : List (Nat × List Nat) := [(2, [])]
def sw_Td_init : List (List Nat) := []
set_option maxRecDepth 100000 in
theorem tk_Td_init : TOK m_Td_init cl_Td_init sw_Td_init tb_Td_init := ⟨tokB_ok (by decide +kernel), fun _ h => nomatch h⟩
def tb_La_init : List Ent := [(0, .aload_n 0, 1, 2, 0, 0, 0, 0, 0), (1, .invokespecial 3, 3, 46, 0, 0, 0, 298, 0), (4, .aload_n 0, 1, 2, 0, 0, 0, 0, 0), (5, .iconst (-1), 1, 5, 0, 0, 0, 0, (-1)), (6, .putfield 9, 3, 24, 0, 0, 0, 299, 0), (9, .aload_n 0, 1, 2, 0, 0, 0, 0, 0), (10, .iconst 0, 1, 5, 0, 0, 0, 0, 0), (11, .newarray .int, 2, 35, 0, 0, 0, 190, 0), (13, .putfield 15, 3, 24, 0, 1, 2, 301, 0), (16, .aload_n 0, 1, 2, 0, 0, 0, 0, 0), (17, .iconst 0, 1, 5, 0, 0, 0, 0, 0), (18, .newarray .int, 2, 35, 0, 0, 0, 190, 0), (20, .putfield 19, 3, 24, 0, 2, 2, 302, 0), (23, .aload_n 0, 1, 2, 0, 0, 0, 0, 0), (24, .iconst 0, 1, 5, 0, 0, 0, 0, 0), (25, .newarray .int, 2, 35, 0, 0, 0, 190, 0), (27, .putfield 22, 3, 24, 0, 3, 2, 303, 0), (30, .aload_n 0, 1, 2, 0, 0, 0, 0, 0), (31, .iconst 0, 1, 5, 0, 0, 0, 0, 0), (32, .newarray .int, 2, 35, 0, 0, 0, 190, 0), (34, .putfield 25, 3, 24, 0, 4, 2, 304, 0), (37, .return_, 1, 49, 0, 0, 0, 0, 0)]
def cl_La_init : List (Mr × Nat × Nat) := []
def ct_La_init : List (Nat × List Nat) := [(2, []), (5, []), (9, []), (13, []), (17, [])]
def sw_La_init : List (List Nat) := []
set_option maxRecDepth 100000 in
theorem tk_La_init : TOK m_La_init cl_La_init sw_La_init tb_La_init := ⟨tokB_ok (by decide +kernel), fun _ h => nomatch h⟩
def tb_Lo_init : List Ent := [(0, .aload_n 0, 1, 2, 0, 0, 0, 0, 0), (1, .invokespecial 3, 3, 46, 0, 0, 0, 326, 0), (4, .aload_n 0, 1, 2, 0, 0, 0, 0, 0), (5, .sipush 300, 3, 5, 0, 0, 0, 0, 300), (8, .newarray .int, 2, 35, 0, 0, 0, 190, 0), (10, .putfield 11, 3, 24, 2, 0, 2, 327, 0), (13, .aload_n 0, 1, 2, 0, 0, 0, 0, 0), (14, .iconst 0, 1, 5, 0, 0, 0, 0, 0), (15, .putfield 15, 3, 24, 2, 1, 0, 328, 0), (18, .aload_n 0, 1, 2, 0, 0, 0, 0, 0), (19, .iconst 0, 1, 5, 0, 0, 0, 0, 0), (20, .putfield 19, 3, 24, 2, 2, 0, 329, 0), (23, .return_, 1, 49, 0, 0, 0, 0, 0)]
def cl_Lo_init : List (Mr × Nat × Nat) := []
def ct_Lo_init : List (Nat × List Nat) := [(2, []), (6, []), (9, [])]
def sw_Lo_init : List (List Nat) := []
set_option maxRecDepth 100000 in
theorem tk_Lo_init : TOK m_Lo_init cl_Lo_init sw_Lo_init tb_Lo_init := ⟨tokB_ok (by decide +kernel), fun _ h => nomatch h⟩
def tb_Ta_hasRoom : List Ent := [(0, .aload_n 0, 1, 2, 0, 0, 0, 0, 0), (1, .getfield 15, 3, 22, 5, 1, 0, 178, 0), (4, .bipush 20, 2, 5, 0, 0, 0, 0, 20), (6, .iadd, 1, 7, 0, 0, 0, 0, 0), (7, .sipush 400, 3, 5, 0, 0, 0, 0, 400), (10, .if_icmp .gt 7, 3, 18, 4, 8, 0, 0, 0), (13, .iconst 1, 1, 5, 0, 0, 0, 0, 1), (14, .goto 4, 3, 20, 0, 9, 0, 0, 0), (17, .iconst 0, 1, 5, 0, 0, 0, 0, 0), (18, .ireturn, 1, 47, 0, 0, 1, 0, 0)]
def cl_Ta_hasRoom : List (Mr × Nat × Nat) := []
def ct_Ta_hasRoom : List (Nat × List Nat) := []
def sw_Ta_hasRoom : List (List Nat) := []
set_option maxRecDepth 100000 in
theorem tk_Ta_hasRoom : TOK m_Ta_hasRoom cl_Ta_hasRoom sw_Ta_hasRoom tb_Ta_hasRoom := ⟨tokB_ok (by decide +kernel), fun _ h => nomatch h⟩
def tb_Ta_add : List Ent := [(0, .bipush 24, 2, 5, 0, 0, 0, 0, 24), (2, .istore_n 2, 1, 3, 2, 0, 0, 0, 0), (3, .iload_n 2, 1, 1, 2, 0, 0, 0, 0), (4, .ifCond .lt 45, 3, 17, 2, 26, 0, 0, 0), (7, .aload_n 0, 1, 2, 0, 0, 0, 0, 0), (8, .getfield 15, 3, 22, 5, 1, 0, 178, 0), (11, .sipush 400, 3, 5, 0, 0, 0, 0, 400), (14, .if_icmp .ge 35, 3, 18, 3, 26, 0, 0, 0), (17, .aload_n 0, 1, 2, 0, 0, 0, 0, 0), (18, .getfield 11, 3, 23, 5, 0, 0, 177, 0), (21, .aload_n 0, 1, 2, 0, 0, 0, 0, 0), (22, .getfield 15, 3, 22, 5, 1, 0, 178, 0), (25, .iload_n 1, 1, 1, 1, 0, 0, 0, 0), (26, .iload_n 2, 1, 1, 2, 0, 0, 0, 0), (27, .iushr, 1, 7, 8, 0, 0, 0, 0), (28, .sipush 255, 3, 5, 0, 0, 0, 0, 255), (31, .iand, 1, 7, 3, 0, 0, 0, 0), (32, .iastore, 1, 28, 0, 0, 0, 0, 0), (33, .aload_n 0, 1, 2, 0, 0, 0, 0, 0), (34, .dup, 1, 14, 0, 0, 0, 0, 0), (35, .getfield 15, 3, 22, 5, 1, 0, 178, 0), (38, .iconst 1, 1, 5, 0, 0, 0, 0, 1), (39, .iadd, 1, 7, 0, 0, 0, 0, 0), (40, .putfield 15, 3, 24, 5, 1, 0, 178, 0), (43, .iinc 2 (-8), 3, 6, 2, 0, 0, 0, (-8)), (46, .goto (-43), 3, 20, 0, 2, 0, 0, 0), (49, .return_, 1, 49, 0, 0, 0, 0, 0)]
def cl_Ta_add : List (Mr × Nat × Nat) := []
def ct_Ta_add : List (Nat × List Nat) := [(2, [])]
def sw_Ta_add : List (List Nat) := []
set_option maxRecDepth 100000 in
theorem tk_Ta_add : TOK m_Ta_add cl_Ta_add sw_Ta_add tb_Ta_add := ⟨tokB_ok (by decide +kernel), fun _ h => nomatch h⟩
def tb_Ta_cut : List Ent := [(0, .iload_n 1, 1, 1, 1, 0, 0, 0, 0), (1, .ifCond .lt 11, 3, 17, 2, 6, 0, 0, 0), (4, .iload_n 1, 1, 1, 1, 0, 0, 0, 0), (5, .aload_n 0, 1, 2, 0, 0, 0, 0, 0), (6, .getfield 15, 3, 22, 5, 1, 0, 178, 0), (9, .if_icmp .le 5, 3, 18, 5, 8, 0, 0, 0), (12, .iconst 0, 1, 5, 0, 0, 0, 0, 0), (13, .ireturn, 1, 47, 0, 0, 1, 0, 0), (14, .aload_n 0, 1, 2, 0, 0, 0, 0, 0), (15, .iload_n 1, 1, 1, 1, 0, 0, 0, 0), (16, .putfield 15, 3, 24, 5, 1, 0, 178, 0), (19, .iconst 1, 1, 5, 0, 0, 0, 0, 1), (20, .ireturn, 1, 47, 0, 0, 1, 0, 0)]
def cl_Ta_cut : List (Mr × Nat × Nat) := []
def ct_Ta_cut : List (Nat × List Nat) := []
def sw_Ta_cut : List (List Nat) := []
set_option maxRecDepth 100000 in
theorem tk_Ta_cut : TOK m_Ta_cut cl_Ta_cut sw_Ta_cut tb_Ta_cut := ⟨tokB_ok (by decide +kernel), fun _ h => nomatch h⟩
def tb_Es_line : List Ent := [(0, .iconst 0, 1, 5, 0, 0, 0, 0, 0), (1, .istore_n 2, 1, 3, 2, 0, 0, 0, 0), (2, .aload_n 0, 1, 2, 0, 0, 0, 0, 0), (3, .getfield 41, 3, 23, 7, 3, 0, 351, 0), (6, .iload_n 1, 1, 1, 1, 0, 0, 0, 0), (7, .iaload, 1, 25, 101, 0, 0, 0, 0), (8, .istore_n 3, 1, 3, 3, 0, 0, 0, 0), (9, .iconst 0, 1, 5, 0, 0, 0, 0, 0), (10, .istore 4, 2, 3, 4, 0, 0, 0, 0), (12, .iload 4, 2, 1, 4, 0, 0, 0, 0), (14, .aload_n 0, 1, 2, 0, 0, 0, 0, 0), (15, .getfield 44, 3, 22, 7, 0, 0, 339, 0), (18, .if_icmp .ge 27, 3, 18, 3, 29, 0, 0, 0), (21, .iload_n 3, 1, 1, 3, 0, 0, 0, 0), (22, .iconst (-1), 1, 5, 0, 0, 0, 0, (-1)), (23, .if_icmp .eq 22, 3, 18, 0, 29, 0, 0, 0), (26, .iload_n 2, 1, 1, 2, 0, 0, 0, 0), (27, .iconst 1, 1, 5, 0, 0, 0, 0, 1), (28, .iload_n 3, 1, 1, 3, 0, 0, 0, 0), (29, .ishl, 1, 7, 6, 0, 0, 0, 0), (30, .ior, 1, 7, 4, 0, 0, 0, 0), (31, .istore_n 2, 1, 3, 2, 0, 0, 0, 0), (32, .aload_n 0, 1, 2, 0, 0, 0, 0, 0), (33, .getfield 41, 3, 23, 7, 3, 0, 351, 0), (36, .iload_n 3, 1, 1, 3, 0, 0, 0, 0), (37, .iaload, 1, 25, 101, 0, 0, 0, 0), (38, .istore_n 3, 1, 3, 3, 0, 0, 0, 0), (39, .iinc 4 1, 3, 6, 4, 0, 0, 0, 1), (42, .goto (-30), 3, 20, 0, 9, 0, 0, 0), (45, .iload_n 2, 1, 1, 2, 0, 0, 0, 0), (46, .ireturn, 1, 47, 0, 0, 0, 0, 0)]
def cl_Es_line : List (Mr × Nat × Nat) := []
def ct_Es_line : List (Nat × List Nat) := [(9, [1])]
def sw_Es_line : List (List Nat) := []
set_option maxRecDepth 100000 in
theorem tk_Es_line : TOK m_Es_line cl_Es_line sw_Es_line tb_Es_line := ⟨tokB_ok (by decide +kernel), fun _ h => nomatch h⟩
def tb_JI_bitCount : List Ent := [(0, .iload_n 0, 1, 1, 0, 0, 0, 0, 0), (1, .iload_n 0, 1, 1, 0, 0, 0, 0, 0), (2, .iconst 1, 1, 5, 0, 0, 0, 0, 1), (3, .iushr, 1, 7, 8, 0, 0, 0, 0), (4, .ldc_w 265, 3, 5, 0, 265, 0, 534, 1431655765), (7, .iand, 1, 7, 3, 0, 0, 0, 0), (8, .isub, 1, 7, 1, 0, 0, 0, 0), (9, .istore_n 0, 1, 3, 0, 0, 0, 0, 0), (10, .iload_n 0, 1, 1, 0, 0, 0, 0, 0), (11, .ldc_w 266, 3, 5, 0, 266, 0, 535, 858993459), (14, .iand, 1, 7, 3, 0, 0, 0, 0), (15, .iload_n 0, 1, 1, 0, 0, 0, 0, 0), (16, .iconst 2, 1, 5, 0, 0, 0, 0, 2), (17, .iushr, 1, 7, 8, 0, 0, 0, 0), (18, .ldc_w 266, 3, 5, 0, 266, 0, 535, 858993459), (21, .iand, 1, 7, 3, 0, 0, 0, 0), (22, .iadd, 1, 7, 0, 0, 0, 0, 0), (23, .istore_n 0, 1, 3, 0, 0, 0, 0, 0), (24, .iload_n 0, 1, 1, 0, 0, 0, 0, 0), (25, .iload_n 0, 1, 1, 0, 0, 0, 0, 0), (26, .iconst 4, 1, 5, 0, 0, 0, 0, 4), (27, .iushr, 1, 7, 8, 0, 0, 0, 0), (28, .iadd, 1, 7, 0, 0, 0, 0, 0), (29, .ldc_w 267, 3, 5, 0, 267, 0, 536, 252645135), (32, .iand, 1, 7, 3, 0, 0, 0, 0), (33, .istore_n 0, 1, 3, 0, 0, 0, 0, 0), (34, .iload_n 0, 1, 1, 0, 0, 0, 0, 0), (35, .iload_n 0, 1, 1, 0, 0, 0, 0, 0), (36, .bipush 8, 2, 5, 0, 0, 0, 0, 8), (38, .iushr, 1, 7, 8, 0, 0, 0, 0), (39, .iadd, 1, 7, 0, 0, 0, 0, 0), (40, .istore_n 0, 1, 3, 0, 0, 0, 0, 0), (41, .iload_n 0, 1, 1, 0, 0, 0, 0, 0), (42, .iload_n 0, 1, 1, 0, 0, 0, 0, 0), (43, .bipush 16, 2, 5, 0, 0, 0, 0, 16), (45, .iushr, 1, 7, 8, 0, 0, 0, 0), (46, .iadd, 1, 7, 0, 0, 0, 0, 0), (47, .istore_n 0, 1, 3, 0, 0, 0, 0, 0), (48, .iload_n 0, 1, 1, 0, 0, 0, 0, 0), (49, .bipush 63, 2, 5, 0, 0, 0, 0, 63), (51, .iand, 1, 7, 3, 0, 0, 0, 0), (52, .ireturn, 1, 47, 0, 0, 0, 0, 0)]
def cl_JI_bitCount : List (Mr × Nat × Nat) := []
def ct_JI_bitCount : List (Nat × List Nat) := []
def sw_JI_bitCount : List (List Nat) := []
set_option maxRecDepth 100000 in
theorem tk_JI_bitCount : TOK m_JI_bitCount cl_JI_bitCount sw_JI_bitCount tb_JI_bitCount := ⟨tokB_ok (by decide +kernel), fun _ h => nomatch h⟩
def tb_Es_allWatched : List Ent := [(0, .iconst 0, 1, 5, 0, 0, 0, 0, 0), (1, .istore_n 2, 1, 3, 2, 0, 0, 0, 0), (2, .iload_n 2, 1, 1, 2, 0, 0, 0, 0), (3, .aload_n 0, 1, 2, 0, 0, 0, 0, 0), (4, .getfield 44, 3, 22, 7, 0, 0, 339, 0), (7, .if_icmp .ge 50, 3, 18, 3, 35, 0, 0, 0), (10, .aload_n 0, 1, 2, 0, 0, 0, 0, 0), (11, .iload_n 2, 1, 1, 2, 0, 0, 0, 0), (12, .invokevirtual 19, 3, 40, 0, 0, 8, 540, 0), (15, .ifCond .eq 36, 3, 17, 0, 33, 0, 0, 0), (18, .iload_n 1, 1, 1, 1, 0, 0, 0, 0), (19, .iload_n 2, 1, 1, 2, 0, 0, 0, 0), (20, .ishr, 1, 7, 7, 0, 0, 0, 0), (21, .iconst 1, 1, 5, 0, 0, 0, 0, 1), (22, .iand, 1, 7, 3, 0, 0, 0, 0), (23, .iconst 1, 1, 5, 0, 0, 0, 0, 1), (24, .if_icmp .ne 6, 3, 18, 1, 18, 0, 0, 0), (27, .goto 24, 3, 20, 0, 33, 0, 0, 0), (30, .aload_n 0, 1, 2, 0, 0, 0, 0, 0), (31, .iload_n 2, 1, 1, 2, 0, 0, 0, 0), (32, .invokevirtual 23, 3, 40, 1, 0, 8, 541, 0), (35, .istore_n 3, 1, 3, 3, 0, 0, 0, 0), (36, .iload_n 3, 1, 1, 3, 0, 0, 0, 0), (37, .iconst (-1), 1, 5, 0, 0, 0, 0, (-1)), (38, .if_icmp .eq 11, 3, 18, 0, 31, 0, 0, 0), (41, .iload_n 1, 1, 1, 1, 0, 0, 0, 0), (42, .iload_n 3, 1, 1, 3, 0, 0, 0, 0), (43, .ishr, 1, 7, 7, 0, 0, 0, 0), (44, .iconst 1, 1, 5, 0, 0, 0, 0, 1), (45, .iand, 1, 7, 3, 0, 0, 0, 0), (46, .ifCond .ne 5, 3, 17, 1, 33, 0, 0, 0), (49, .iconst 0, 1, 5, 0, 0, 0, 0, 0), (50, .ireturn, 1, 47, 0, 0, 1, 0, 0), (51, .iinc 2 1, 3, 6, 2, 0, 0, 0, 1), (54, .goto (-52), 3, 20, 0, 2, 0, 0, 0), (57, .iconst 1, 1, 5, 0, 0, 0, 0, 1), (58, .ireturn, 1, 47, 0, 0, 1, 0, 0)]
def cl_Es_allWatched : List (Mr × Nat × Nat) := [(m_Va_isLiving, 1, 1), (m_Va_successor, 1, 1)]
def ct_Es_allWatched : List (Nat × List Nat) := [(2, [3])]
def sw_Es_allWatched : List (List Nat) := []
set_option maxRecDepth 100000 in
theorem tk_Es_allWatched : TOK m_Es_allWatched cl_Es_allWatched sw_Es_allWatched tb_Es_allWatched := ⟨tokB_ok (by decide +kernel), List.forall_mem_cons.mpr ⟨⟨k_Va_isLiving, by decide⟩, List.forall_mem_cons.mpr ⟨⟨k_Va_successor, by decide⟩, fun _ h => nomatch h⟩⟩⟩
def tb_Es_fewestWatchers : List Ent := [(0, .aload_n 0, 1, 2, 0, 0, 0, 0, 0), (1, .getfield 82, 3, 22, 7, 5, 0, 360, 0), (4, .istore_n 1, 1, 3, 1, 0, 0, 0, 0), (5, .iconst 0, 1, 5, 0, 0, 0, 0, 0), (6, .istore_n 2, 1, 3, 2, 0, 0, 0, 0), (7, .iload_n 2, 1, 1, 2, 0, 0, 0, 0), (8, .aload_n 0, 1, 2, 0, 0, 0, 0, 0), (9, .getfield 82, 3, 22, 7, 5, 0, 360, 0), (12, .if_icmp .ge 41, 3, 18, 3, 29, 0, 0, 0), (15, .iload_n 2, 1, 1, 2, 0, 0, 0, 0), (16, .aload_n 0, 1, 2, 0, 0, 0, 0, 0), (17, .getfield 82, 3, 22, 7, 5, 0, 360, 0), (20, .iconst (-1), 1, 5, 0, 0, 0, 0, (-1)), (21, .ixor, 1, 7, 5, 0, 0, 0, 0), (22, .iand, 1, 7, 3, 0, 0, 0, 0), (23, .ifCond .ne 24, 3, 17, 1, 27, 0, 0, 0), (26, .iload_n 2, 1, 1, 2, 0, 0, 0, 0), (27, .invokestatic 55, 3, 40, 0, 0, 0, 531, 0), (30, .iload_n 1, 1, 1, 1, 0, 0, 0, 0), (31, .invokestatic 55, 3, 40, 0, 0, 0, 531, 0), (34, .if_icmp .ge 13, 3, 18, 3, 27, 0, 0, 0), (37, .aload_n 0, 1, 2, 0, 0, 0, 0, 0), (38, .iload_n 2, 1, 1, 2, 0, 0, 0, 0), (39, .invokestatic 85, 3, 40, 1, 0, 0, 537, 0), (42, .ifCond .eq 5, 3, 17, 0, 27, 0, 0, 0), (45, .iload_n 2, 1, 1, 2, 0, 0, 0, 0), (46, .istore_n 1, 1, 3, 1, 0, 0, 0, 0), (47, .iinc 2 1, 3, 6, 2, 0, 0, 0, 1), (50, .goto (-43), 3, 20, 0, 5, 0, 0, 0), (53, .iload_n 1, 1, 1, 1, 0, 0, 0, 0), (54, .ireturn, 1, 47, 0, 0, 0, 0, 0)]
def cl_Es_fewestWatchers : List (Mr × Nat × Nat) := [(m_JI_bitCount, 1, 0), (m_Es_allWatched, 2, 0)]
def ct_Es_fewestWatchers : List (Nat × List Nat) := [(5, [])]
def sw_Es_fewestWatchers : List (List Nat) := []
set_option maxRecDepth 100000 in
theorem tk_Es_fewestWatchers : TOK m_Es_fewestWatchers cl_Es_fewestWatchers sw_Es_fewestWatchers tb_Es_fewestWatchers := ⟨tokB_ok (by decide +kernel), List.forall_mem_cons.mpr ⟨⟨k_JI_bitCount, by decide⟩, List.forall_mem_cons.mpr ⟨⟨k_Es_allWatched, by decide⟩, fun _ h => nomatch h⟩⟩⟩
def tb_Lo_copyFrom : List Ent := [(0, .aload_n 1, 1, 2, 1, 0, 0, 0, 0), (1, .getfield 11, 3, 23, 2, 0, 0, 327, 0), (4, .iconst 0, 1, 5, 0, 0, 0, 0, 0), (5, .aload_n 0, 1, 2, 0, 0, 0, 0, 0), (6, .getfield 11, 3, 23, 2, 0, 0, 327, 0), (9, .iconst 0, 1, 5, 0, 0, 0, 0, 0), (10, .aload_n 0, 1, 2, 0, 0, 0, 0, 0), (11, .getfield 11, 3, 23, 2, 0, 0, 327, 0), (14, .arraylength, 1, 33, 101, 0, 0, 0, 0), (15, .invokestatic 22, 3, 51, 0, 0, 0, 598, 0), (18, .aload_n 0, 1, 2, 0, 0, 0, 0, 0), (19, .aload_n 1, 1, 2, 1, 0, 0, 0, 0), (20, .getfield 15, 3, 22, 2, 1, 0, 328, 0), (23, .putfield 15, 3, 24, 2, 1, 0, 328, 0), (26, .aload_n 0, 1, 2, 0, 0, 0, 0, 0), (27, .aload_n 1, 1, 2, 1, 0, 0, 0, 0), (28, .getfield 19, 3, 22, 2, 2, 0, 329, 0), (31, .putfield 19, 3, 24, 2, 2, 0, 329, 0), (34, .return_, 1, 49, 0, 0, 0, 0, 0)]
def cl_Lo_copyFrom : List (Mr × Nat × Nat) := []
def ct_Lo_copyFrom : List (Nat × List Nat) := []
def sw_Lo_copyFrom : List (List Nat) := []
set_option maxRecDepth 100000 in
theorem tk_Lo_copyFrom : TOK m_Lo_copyFrom cl_Lo_copyFrom sw_Lo_copyFrom tb_Lo_copyFrom := ⟨tokB_ok (by decide +kernel), fun _ h => nomatch h⟩
def tb_Ta_useUp : List Ent := [(0, .aload_n 0, 1, 2, 0, 0, 0, 0, 0), (1, .aload_n 0, 1, 2, 0, 0, 0, 0, 0), (2, .getfield 15, 3, 22, 5, 1, 0, 178, 0), (5, .putfield 19, 3, 24, 5, 2, 0, 180, 0), (8, .aload_n 0, 1, 2, 0, 0, 0, 0, 0), (9, .iconst 0, 1, 5, 0, 0, 0, 0, 0), (10, .putfield 15, 3, 24, 5, 1, 0, 178, 0), (13, .return_, 1, 49, 0, 0, 0, 0, 0)]
def cl_Ta_useUp : List (Mr × Nat × Nat) := []
def ct_Ta_useUp : List (Nat × List Nat) := []
def sw_Ta_useUp : List (List Nat) := []
set_option maxRecDepth 100000 in
theorem tk_Ta_useUp : TOK m_Ta_useUp cl_Ta_useUp sw_Ta_useUp tb_Ta_useUp := ⟨tokB_ok (by decide +kernel), fun _ h => nomatch h⟩
def tb_Ta_at : List Ent := [(0, .iload_n 1, 1, 1, 1, 0, 0, 0, 0), (1, .ifCond .lt 20, 3, 17, 2, 11, 0, 0, 0), (4, .iload_n 1, 1, 1, 1, 0, 0, 0, 0), (5, .aload_n 0, 1, 2, 0, 0, 0, 0, 0), (6, .getfield 19, 3, 22, 5, 2, 0, 180, 0), (9, .if_icmp .ge 12, 3, 18, 3, 11, 0, 0, 0), (12, .aload_n 0, 1, 2, 0, 0, 0, 0, 0), (13, .getfield 11, 3, 23, 5, 0, 0, 177, 0), (16, .iload_n 1, 1, 1, 1, 0, 0, 0, 0), (17, .iaload, 1, 25, 101, 0, 0, 0, 0), (18, .goto 4, 3, 20, 0, 12, 0, 0, 0), (21, .iconst (-1), 1, 5, 0, 0, 0, 0, (-1)), (22, .ireturn, 1, 47, 0, 0, 0, 0, 0)]
def cl_Ta_at : List (Mr × Nat × Nat) := []
def ct_Ta_at : List (Nat × List Nat) := []
def sw_Ta_at : List (List Nat) := []
set_option maxRecDepth 100000 in
theorem tk_Ta_at : TOK m_Ta_at cl_Ta_at sw_Ta_at tb_Ta_at := ⟨tokB_ok (by decide +kernel), fun _ h => nomatch h⟩
def tb_JS_coder : List Ent := [(0, .getstatic 38, 3, 37, 2, 0, 1, 682, 0), (3, .ifCond .eq 10, 3, 17, 0, 5, 0, 0, 0), (6, .aload_n 0, 1, 2, 0, 0, 0, 0, 0), (7, .getfield 15, 3, 38, 3, 0, 1, 2335, 0), (10, .goto 4, 3, 20, 0, 6, 0, 0, 0), (13, .iconst 1, 1, 5, 0, 0, 0, 0, 1), (14, .ireturn, 1, 47, 0, 0, 2, 0, 0)]
def cl_JS_coder : List (Mr × Nat × Nat) := []
def ct_JS_coder : List (Nat × List Nat) := []
def sw_JS_coder : List (List Nat) := []
set_option maxRecDepth 100000 in
theorem tk_JS_coder : TOK m_JS_coder cl_JS_coder sw_JS_coder tb_JS_coder := ⟨tokB_ok (by decide +kernel), fun _ h => nomatch h⟩
def tb_JS_length : List Ent := [(0, .aload_n 0, 1, 2, 0, 0, 0, 0, 0), (1, .getfield 9, 3, 38, 2, 0, 0, 2334, 0), (4, .arraylength, 1, 33, 103, 0, 0, 0, 0), (5, .aload_n 0, 1, 2, 0, 0, 0, 0, 0), (6, .invokevirtual 335, 3, 40, 0, 0, 202, 678, 0), (9, .ishr, 1, 7, 7, 0, 0, 0, 0), (10, .ireturn, 1, 47, 0, 0, 0, 0, 0)]
def cl_JS_length : List (Mr × Nat × Nat) := [(m_JS_coder, 0, 1)]
def ct_JS_length : List (Nat × List Nat) := []
def sw_JS_length : List (List Nat) := []
set_option maxRecDepth 100000 in
theorem tk_JS_length : TOK m_JS_length cl_JS_length sw_JS_length tb_JS_length := ⟨tokB_ok (by decide +kernel), List.forall_mem_cons.mpr ⟨⟨k_JS_coder, by decide⟩, fun _ h => nomatch h⟩⟩
def tb_JS_isLatin1 : List Ent := [(0, .getstatic 38, 3, 37, 2, 0, 1, 682, 0), (3, .ifCond .eq 14, 3, 17, 0, 7, 0, 0, 0), (6, .aload_n 0, 1, 2, 0, 0, 0, 0, 0), (7, .getfield 15, 3, 38, 3, 0, 1, 2335, 0), (10, .ifCond .ne 7, 3, 17, 1, 7, 0, 0, 0), (13, .iconst 1, 1, 5, 0, 0, 0, 0, 1), (14, .goto 4, 3, 20, 0, 8, 0, 0, 0), (17, .iconst 0, 1, 5, 0, 0, 0, 0, 0), (18, .ireturn, 1, 47, 0, 0, 1, 0, 0)]
def cl_JS_isLatin1 : List (Mr × Nat × Nat) := []
def ct_JS_isLatin1 : List (Nat × List Nat) := []
def sw_JS_isLatin1 : List (List Nat) := []
set_option maxRecDepth 100000 in
theorem tk_JS_isLatin1 : TOK m_JS_isLatin1 cl_JS_isLatin1 sw_JS_isLatin1 tb_JS_isLatin1 := ⟨tokB_ok (by decide +kernel), fun _ h => nomatch h⟩
def tb_JP_checkIndex : List Ent := [(0, .iload_n 0, 1, 1, 0, 0, 0, 0, 0), (1, .ifCond .lt 8, 3, 17, 2, 5, 0, 0, 0), (4, .iload_n 0, 1, 1, 0, 0, 0, 0, 0), (5, .iload_n 1, 1, 1, 1, 0, 0, 0, 0), (6, .if_icmp .lt 10, 3, 18, 2, 10, 0, 0, 0), (9, .aload_n 2, 1, 2, 2, 0, 0, 0, 0), (10, .iload_n 0, 1, 1, 0, 0, 0, 0, 0), (11, .iload_n 1, 1, 1, 1, 0, 0, 0, 0), (12, .invokestatic 95, 3, 99, 0, 0, 0, 0, 0), (15, .athrow, 1, 99, 0, 0, 0, 0, 0), (16, .iload_n 0, 1, 1, 0, 0, 0, 0, 0), (17, .ireturn, 1, 47, 0, 0, 0, 0, 0)]
def cl_JP_checkIndex : List (Mr × Nat × Nat) := []
def ct_JP_checkIndex : List (Nat × List Nat) := []
def sw_JP_checkIndex : List (List Nat) := []
set_option maxRecDepth 100000 in
theorem tk_JP_checkIndex : TOK m_JP_checkIndex cl_JP_checkIndex sw_JP_checkIndex tb_JP_checkIndex := ⟨tokB_ok (by decide +kernel), fun _ h => nomatch h⟩
def tb_JS_checkIndex : List Ent := [(0, .iload_n 0, 1, 1, 0, 0, 0, 0, 0), (1, .iload_n 1, 1, 1, 1, 0, 0, 0, 0), (2, .getstatic 1053, 3, 37, 3, 0, 2, 698, 0), (5, .invokestatic 1059, 3, 40, 0, 0, 0, 700, 0), (8, .pop, 1, 16, 0, 0, 0, 0, 0), (9, .return_, 1, 49, 0, 0, 0, 0, 0)]
def cl_JS_checkIndex : List (Mr × Nat × Nat) := [(m_JP_checkIndex, 3, 0)]
def ct_JS_checkIndex : List (Nat × List Nat) := []
def sw_JS_checkIndex : List (List Nat) := []
set_option maxRecDepth 100000 in
theorem tk_JS_checkIndex : TOK m_JS_checkIndex cl_JS_checkIndex sw_JS_checkIndex tb_JS_checkIndex := ⟨tokB_ok (by decide +kernel), List.forall_mem_cons.mpr ⟨⟨k_JP_checkIndex, by decide⟩, fun _ h => nomatch h⟩⟩
def tb_JL_charAt : List Ent := [(0, .iload_n 1, 1, 1, 1, 0, 0, 0, 0), (1, .aload_n 0, 1, 2, 0, 0, 0, 0, 0), (2, .arraylength, 1, 33, 103, 0, 0, 0, 0), (3, .invokestatic 9, 3, 41, 0, 0, 0, 695, 0), (6, .aload_n 0, 1, 2, 0, 0, 0, 0, 0), (7, .iload_n 1, 1, 1, 1, 0, 0, 0, 0), (8, .baload, 1, 25, 103, 0, 0, 0, 0), (9, .sipush 255, 3, 5, 0, 0, 0, 0, 255), (12, .iand, 1, 7, 3, 0, 0, 0, 0), (13, .i2c, 1, 10, 2, 0, 0, 0, 0), (14, .ireturn, 1, 47, 0, 0, 3, 0, 0)]
def cl_JL_charAt : List (Mr × Nat × Nat) := [(m_JS_checkIndex, 2, 0)]
def ct_JL_charAt : List (Nat × List Nat) := []
def sw_JL_charAt : List (List Nat) := []
set_option maxRecDepth 100000 in
theorem tk_JL_charAt : TOK m_JL_charAt cl_JL_charAt sw_JL_charAt tb_JL_charAt := ⟨tokB_ok (by decide +kernel), List.forall_mem_cons.mpr ⟨⟨k_JS_checkIndex, by decide⟩, fun _ h => nomatch h⟩⟩
def tb_JS_charAt : List Ent := [(0, .aload_n 0, 1, 2, 0, 0, 0, 0, 0), (1, .invokevirtual 492, 3, 40, 0, 0, 202, 688, 0), (4, .ifCond .eq 12, 3, 17, 0, 8, 0, 0, 0), (7, .aload_n 0, 1, 2, 0, 0, 0, 0, 0), (8, .getfield 9, 3, 38, 2, 0, 0, 2334, 0), (11, .iload_n 1, 1, 1, 1, 0, 0, 0, 0), (12, .invokestatic 495, 3, 42, 1, 0, 0, 692, 0), (15, .ireturn, 1, 47, 0, 0, 3, 0, 0), (16, .aload_n 0, 1, 2, 0, 0, 0, 0, 0), (17, .getfield 9, 3, 38, 2, 0, 0, 2334, 0), (20, .iload_n 1, 1, 1, 1, 0, 0, 0, 0), (21, .invokestatic 498, 3, 99, 0, 0, 0, 0, 0), (24, .ireturn, 1, 47, 0, 0, 3, 0, 0)]
def cl_JS_charAt : List (Mr × Nat × Nat) := [(m_JS_isLatin1, 0, 1), (m_JL_charAt, 2, 0)]
def ct_JS_charAt : List (Nat × List Nat) := []
def sw_JS_charAt : List (List Nat) := []
set_option maxRecDepth 100000 in
theorem tk_JS_charAt : TOK m_JS_charAt cl_JS_charAt sw_JS_charAt tb_JS_charAt := ⟨tokB_ok (by decide +kernel), List.forall_mem_cons.mpr ⟨⟨k_JS_isLatin1, by decide⟩, List.forall_mem_cons.mpr ⟨⟨k_JL_charAt, by decide⟩, fun _ h => nomatch h⟩⟩⟩
def tb_To_isAt : List Ent := [(0, .aload_n 0, 1, 2, 0, 0, 0, 0, 0), (1, .getfield 128, 3, 38, 0, 0, 0, 2333, 0), (4, .invokevirtual 145, 3, 40, 0, 0, 202, 674, 0), (7, .iload_n 3, 1, 1, 3, 0, 0, 0, 0), (8, .iload_n 2, 1, 1, 2, 0, 0, 0, 0), (9, .isub, 1, 7, 1, 0, 0, 0, 0), (10, .if_icmp .eq 5, 3, 18, 0, 9, 0, 0, 0), (13, .iconst 0, 1, 5, 0, 0, 0, 0, 0), (14, .ireturn, 1, 47, 0, 0, 1, 0, 0), (15, .iconst 0, 1, 5, 0, 0, 0, 0, 0), (16, .istore 4, 2, 3, 4, 0, 0, 0, 0), (18, .iload 4, 2, 1, 4, 0, 0, 0, 0), (20, .aload_n 0, 1, 2, 0, 0, 0, 0, 0), (21, .getfield 128, 3, 38, 0, 0, 0, 2333, 0), (24, .invokevirtual 145, 3, 40, 0, 0, 202, 674, 0), (27, .if_icmp .ge 31, 3, 18, 3, 30, 0, 0, 0), (30, .aload_n 0, 1, 2, 0, 0, 0, 0, 0), (31, .getfield 128, 3, 38, 0, 0, 0, 2333, 0), (34, .iload 4, 2, 1, 4, 0, 0, 0, 0), (36, .invokevirtual 151, 3, 40, 1, 0, 202, 684, 0), (39, .aload_n 1, 1, 2, 1, 0, 0, 0, 0), (40, .iload_n 2, 1, 1, 2, 0, 0, 0, 0), (41, .iload 4, 2, 1, 4, 0, 0, 0, 0), (43, .iadd, 1, 7, 0, 0, 0, 0, 0), (44, .invokevirtual 155, 3, 40, 2, 0, 6, 722, 0), (47, .if_icmp .eq 5, 3, 18, 0, 28, 0, 0, 0), (50, .iconst 0, 1, 5, 0, 0, 0, 0, 0), (51, .ireturn, 1, 47, 0, 0, 1, 0, 0), (52, .iinc 4 1, 3, 6, 4, 0, 0, 0, 1), (55, .goto (-37), 3, 20, 0, 11, 0, 0, 0), (58, .iconst 1, 1, 5, 0, 0, 0, 0, 1), (59, .ireturn, 1, 47, 0, 0, 1, 0, 0)]
def cl_To_isAt : List (Mr × Nat × Nat) := [(m_JS_length, 0, 1), (m_JS_charAt, 1, 1), (m_Ta_at, 1, 1)]
def ct_To_isAt : List (Nat × List Nat) := [(11, [3])]
def sw_To_isAt : List (List Nat) := []
set_option maxRecDepth 100000 in
theorem tk_To_isAt : TOK m_To_isAt cl_To_isAt sw_To_isAt tb_To_isAt := ⟨tokB_ok (by decide +kernel), List.forall_mem_cons.mpr ⟨⟨k_JS_length, by decide⟩, List.forall_mem_cons.mpr ⟨⟨k_JS_charAt, by decide⟩, List.forall_mem_cons.mpr ⟨⟨k_Ta_at, by decide⟩, fun _ h => nomatch h⟩⟩⟩⟩
def tb_To_spelt : List Ent := [(0, .iconst 0, 1, 5, 0, 0, 0, 0, 0), (1, .istore_n 3, 1, 3, 3, 0, 0, 0, 0), (2, .iload_n 3, 1, 1, 3, 0, 0, 0, 0), (3, .getstatic 138, 3, 37, 1, 0, 0, 667, 0), (6, .arraylength, 1, 33, 105, 0, 0, 0, 0), (7, .if_icmp .ge 29, 3, 18, 3, 20, 0, 0, 0), (10, .getstatic 138, 3, 37, 1, 0, 0, 667, 0), (13, .iload_n 3, 1, 1, 3, 0, 0, 0, 0), (14, .aaload, 1, 26, 105, 0, 0, 0, 0), (15, .aload_n 0, 1, 2, 0, 0, 0, 0, 0), (16, .iload_n 1, 1, 1, 1, 0, 0, 0, 0), (17, .iload_n 2, 1, 1, 2, 0, 0, 0, 0), (18, .invokevirtual 141, 3, 40, 0, 0, 201, 669, 0), (21, .ifCond .eq 9, 3, 17, 0, 18, 0, 0, 0), (24, .getstatic 138, 3, 37, 1, 0, 0, 667, 0), (27, .iload_n 3, 1, 1, 3, 0, 0, 0, 0), (28, .aaload, 1, 26, 105, 0, 0, 0, 0), (29, .areturn, 1, 48, 0, 0, 0, 0, 0), (30, .iinc 3 1, 3, 6, 3, 0, 0, 0, 1), (33, .goto (-31), 3, 20, 0, 2, 0, 0, 0), (36, .getstatic 10, 3, 37, 7, 0, 0, 723, 0), (39, .areturn, 1, 48, 0, 0, 0, 0, 0)]
def cl_To_spelt : List (Mr × Nat × Nat) := [(m_To_isAt, 3, 1)]
def ct_To_spelt : List (Nat × List Nat) := [(2, [])]
def sw_To_spelt : List (List Nat) := []
set_option maxRecDepth 100000 in
theorem tk_To_spelt : TOK m_To_spelt cl_To_spelt sw_To_spelt tb_To_spelt := ⟨tokB_ok (by decide +kernel), List.forall_mem_cons.mpr ⟨⟨k_To_isAt, by decide⟩, fun _ h => nomatch h⟩⟩
def tb_To_isTruth : List Ent := [(0, .aload_n 0, 1, 2, 0, 0, 0, 0, 0), (1, .getfield 132, 3, 38, 1, 0, 1, 2336, 0), (4, .bipush (-13), 2, 5, 0, 0, 0, 0, (-13)), (6, .if_icmp .lt 16, 3, 18, 2, 10, 0, 0, 0), (9, .aload_n 0, 1, 2, 0, 0, 0, 0, 0), (10, .getfield 132, 3, 38, 1, 0, 1, 2336, 0), (13, .bipush (-11), 2, 5, 0, 0, 0, 0, (-11)), (15, .if_icmp .gt 7, 3, 18, 4, 10, 0, 0, 0), (18, .iconst 1, 1, 5, 0, 0, 0, 0, 1), (19, .goto 4, 3, 20, 0, 11, 0, 0, 0), (22, .iconst 0, 1, 5, 0, 0, 0, 0, 0), (23, .ireturn, 1, 47, 0, 0, 1, 0, 0)]
def cl_To_isTruth : List (Mr × Nat × Nat) := []
def ct_To_isTruth : List (Nat × List Nat) := []
def sw_To_isTruth : List (List Nat) := []
set_option maxRecDepth 100000 in
theorem tk_To_isTruth : TOK m_To_isTruth cl_To_isTruth sw_To_isTruth tb_To_isTruth := ⟨tokB_ok (by decide +kernel), fun _ h => nomatch h⟩
def tb_To_isPart : List Ent := [(0, .aload_n 0, 1, 2, 0, 0, 0, 0, 0), (1, .getfield 132, 3, 38, 1, 0, 1, 2336, 0), (4, .bipush (-20), 2, 5, 0, 0, 0, 0, (-20)), (6, .if_icmp .lt 16, 3, 18, 2, 10, 0, 0, 0), (9, .aload_n 0, 1, 2, 0, 0, 0, 0, 0), (10, .getfield 132, 3, 38, 1, 0, 1, 2336, 0), (13, .bipush (-14), 2, 5, 0, 0, 0, 0, (-14)), (15, .if_icmp .gt 7, 3, 18, 4, 10, 0, 0, 0), (18, .iconst 1, 1, 5, 0, 0, 0, 0, 1), (19, .goto 4, 3, 20, 0, 11, 0, 0, 0), (22, .iconst 0, 1, 5, 0, 0, 0, 0, 0), (23, .ireturn, 1, 47, 0, 0, 1, 0, 0)]
def cl_To_isPart : List (Mr × Nat × Nat) := []
def ct_To_isPart : List (Nat × List Nat) := []
def sw_To_isPart : List (List Nat) := []
set_option maxRecDepth 100000 in
theorem tk_To_isPart : TOK m_To_isPart cl_To_isPart sw_To_isPart tb_To_isPart := ⟨tokB_ok (by decide +kernel), fun _ h => nomatch h⟩
def tb_La_init2 : List Ent := [(0, .aload_n 0, 1, 2, 0, 0, 0, 0, 0), (1, .invokespecial 3, 3, 46, 0, 0, 0, 298, 0), (4, .aload_n 0, 1, 2, 0, 0, 0, 0, 0), (5, .iload_n 1, 1, 1, 1, 0, 0, 0, 0), (6, .putfield 9, 3, 24, 0, 0, 0, 299, 0), (9, .aload_n 0, 1, 2, 0, 0, 0, 0, 0), (10, .aload_n 2, 1, 2, 2, 0, 0, 0, 0), (11, .invokevirtual 28, 3, 52, 0, 0, 0, 1006, 0), (14, .checkcast 29, 3, 53, 0, 0, 0, 1012, 0), (17, .putfield 15, 3, 24, 0, 1, 2, 301, 0), (20, .aload_n 0, 1, 2, 0, 0, 0, 0, 0), (21, .aload_n 3, 1, 2, 3, 0, 0, 0, 0), (22, .invokevirtual 28, 3, 52, 0, 0, 0, 1006, 0), (25, .checkcast 29, 3, 53, 0, 0, 0, 1012, 0), (28, .putfield 19, 3, 24, 0, 2, 2, 302, 0), (31, .aload_n 0, 1, 2, 0, 0, 0, 0, 0), (32, .aload 4, 2, 2, 4, 0, 0, 0, 0), (34, .invokevirtual 28, 3, 52, 0, 0, 0, 1006, 0), (37, .checkcast 29, 3, 53, 0, 0, 0, 1012, 0), (40, .putfield 22, 3, 24, 0, 3, 2, 303, 0), (43, .aload_n 0, 1, 2, 0, 0, 0, 0, 0), (44, .iload_n 1, 1, 1, 1, 0, 0, 0, 0), (45, .ifCond .le 19, 3, 17, 5, 33, 0, 0, 0), (48, .iload_n 1, 1, 1, 1, 0, 0, 0, 0), (49, .aload 4, 2, 2, 4, 0, 0, 0, 0), (51, .arraylength, 1, 33, 101, 0, 0, 0, 0), (52, .if_icmp .gt 12, 3, 18, 4, 33, 0, 0, 0), (55, .aload 4, 2, 2, 4, 0, 0, 0, 0), (57, .iload_n 1, 1, 1, 1, 0, 0, 0, 0), (58, .iconst 1, 1, 5, 0, 0, 0, 0, 1), (59, .isub, 1, 7, 1, 0, 0, 0, 0), (60, .iaload, 1, 25, 101, 0, 0, 0, 0), (61, .goto 4, 3, 20, 0, 34, 0, 0, 0), (64, .iconst 0, 1, 5, 0, 0, 0, 0, 0), (65, .newarray .int, 2, 35, 0, 0, 0, 190, 0), (67, .putfield 25, 3, 24, 0, 4, 2, 304, 0), (70, .aload 5, 2, 2, 5, 0, 0, 0, 0), (72, .iconst 0, 1, 5, 0, 0, 0, 0, 0), (73, .aload_n 0, 1, 2, 0, 0, 0, 0, 0), (74, .getfield 25, 3, 23, 0, 4, 0, 304, 0), (77, .iconst 0, 1, 5, 0, 0, 0, 0, 0), (78, .aload_n 0, 1, 2, 0, 0, 0, 0, 0), (79, .getfield 25, 3, 23, 0, 4, 0, 304, 0), (82, .arraylength, 1, 33, 101, 0, 0, 0, 0), (83, .invokestatic 33, 3, 51, 0, 0, 0, 1013, 0), (86, .return_, 1, 49, 0, 0, 0, 0, 0)]
def cl_La_init2 : List (Mr × Nat × Nat) := []
def ct_La_init2 : List (Nat × List Nat) := [(2, []), (5, []), (10, [2]), (15, [2, 3]), (20, [2, 3]), (36, [1, 2, 3, 4])]
def sw_La_init2 : List (List Nat) := []
set_option maxRecDepth 100000 in
theorem tk_La_init2 : TOK m_La_init2 cl_La_init2 sw_La_init2 tb_La_init2 := ⟨tokB_ok (by decide +kernel), fun _ h => nomatch h⟩
def tb_La_holds : List Ent := [(0, .iconst 1, 1, 5, 0, 0, 0, 0, 1), (1, .istore 5, 2, 3, 5, 0, 0, 0, 0), (3, .iconst 0, 1, 5, 0, 0, 0, 0, 0), (4, .istore 6, 2, 3, 6, 0, 0, 0, 0), (6, .iconst 0, 1, 5, 0, 0, 0, 0, 0), (7, .istore 7, 2, 3, 7, 0, 0, 0, 0), (9, .iload_n 3, 1, 1, 3, 0, 0, 0, 0), (10, .istore 8, 2, 3, 8, 0, 0, 0, 0), (12, .iload 8, 2, 1, 8, 0, 0, 0, 0), (14, .iload 4, 2, 1, 4, 0, 0, 0, 0), (16, .if_icmp .ge 242, 3, 18, 3, 133, 0, 0, 0), (19, .iload 8, 2, 1, 8, 0, 0, 0, 0), (21, .aload_n 0, 1, 2, 0, 0, 0, 0, 0), (22, .getfield 25, 3, 23, 0, 4, 0, 304, 0), (25, .arraylength, 1, 33, 101, 0, 0, 0, 0), (26, .if_icmp .ge 232, 3, 18, 3, 133, 0, 0, 0), (29, .aload_n 0, 1, 2, 0, 0, 0, 0, 0), (30, .getfield 25, 3, 23, 0, 4, 0, 304, 0), (33, .iload 8, 2, 1, 8, 0, 0, 0, 0), (35, .iaload, 1, 25, 101, 0, 0, 0, 0), (36, .istore 9, 2, 3, 9, 0, 0, 0, 0), (38, .iload 9, 2, 1, 9, 0, 0, 0, 0), (40, .bipush (-10), 2, 5, 0, 0, 0, 0, (-10)), (42, .if_icmp .ne 13, 3, 18, 1, 29, 0, 0, 0), (45, .iload 7, 2, 1, 7, 0, 0, 0, 0), (47, .istore 6, 2, 3, 6, 0, 0, 0, 0), (49, .iconst 0, 1, 5, 0, 0, 0, 0, 0), (50, .istore 7, 2, 3, 7, 0, 0, 0, 0), (52, .goto 200, 3, 20, 0, 131, 0, 0, 0), (55, .iload 9, 2, 1, 9, 0, 0, 0, 0), (57, .bipush (-9), 2, 5, 0, 0, 0, 0, (-9)), (59, .if_icmp .eq 10, 3, 18, 0, 35, 0, 0, 0), (62, .iload 9, 2, 1, 9, 0, 0, 0, 0), (64, .bipush (-8), 2, 5, 0, 0, 0, 0, (-8)), (66, .if_icmp .ne 62, 3, 18, 1, 65, 0, 0, 0), (69, .iload 9, 2, 1, 9, 0, 0, 0, 0), (71, .bipush (-9), 2, 5, 0, 0, 0, 0, (-9)), (73, .if_icmp .ne 18, 3, 18, 1, 45, 0, 0, 0), (76, .iload 6, 2, 1, 6, 0, 0, 0, 0), (78, .iload 7, 2, 1, 7, 0, 0, 0, 0), (80, .if_icmp .ge 7, 3, 18, 3, 43, 0, 0, 0), (83, .iconst 1, 1, 5, 0, 0, 0, 0, 1), (84, .goto 19, 3, 20, 0, 51, 0, 0, 0), (87, .iconst 0, 1, 5, 0, 0, 0, 0, 0), (88, .goto 15, 3, 20, 0, 51, 0, 0, 0), (91, .iload 6, 2, 1, 6, 0, 0, 0, 0), (93, .iload 7, 2, 1, 7, 0, 0, 0, 0), (95, .if_icmp .le 7, 3, 18, 5, 50, 0, 0, 0), (98, .iconst 1, 1, 5, 0, 0, 0, 0, 1), (99, .goto 4, 3, 20, 0, 51, 0, 0, 0), (102, .iconst 0, 1, 5, 0, 0, 0, 0, 0), (103, .istore 10, 2, 3, 10, 0, 0, 0, 0), (105, .iload 5, 2, 1, 5, 0, 0, 0, 0), (107, .iconst 1, 1, 5, 0, 0, 0, 0, 1), (108, .ishl, 1, 7, 6, 0, 0, 0, 0), (109, .iload 10, 2, 1, 10, 0, 0, 0, 0), (111, .ifCond .eq 7, 3, 17, 0, 59, 0, 0, 0), (114, .iconst 1, 1, 5, 0, 0, 0, 0, 1), (115, .goto 4, 3, 20, 0, 60, 0, 0, 0), (118, .iconst 0, 1, 5, 0, 0, 0, 0, 0), (119, .ior, 1, 7, 4, 0, 0, 0, 0), (120, .istore 5, 2, 3, 5, 0, 0, 0, 0), (122, .iconst 0, 1, 5, 0, 0, 0, 0, 0), (123, .istore 7, 2, 3, 7, 0, 0, 0, 0), (125, .goto 127, 3, 20, 0, 131, 0, 0, 0), (128, .iload 9, 2, 1, 9, 0, 0, 0, 0), (130, .bipush (-7), 2, 5, 0, 0, 0, 0, (-7)), (132, .if_icmp .ne 12, 3, 18, 1, 73, 0, 0, 0), (135, .iload 5, 2, 1, 5, 0, 0, 0, 0), (137, .iconst 1, 1, 5, 0, 0, 0, 0, 1), (138, .ixor, 1, 7, 5, 0, 0, 0, 0), (139, .istore 5, 2, 3, 5, 0, 0, 0, 0), (141, .goto 111, 3, 20, 0, 131, 0, 0, 0), (144, .iload 9, 2, 1, 9, 0, 0, 0, 0), (146, .bipush (-6), 2, 5, 0, 0, 0, 0, (-6)), (148, .if_icmp .ne 30, 3, 18, 1, 92, 0, 0, 0), (151, .iload 5, 2, 1, 5, 0, 0, 0, 0), (153, .iconst 1, 1, 5, 0, 0, 0, 0, 1), (154, .iand, 1, 7, 3, 0, 0, 0, 0), (155, .iconst 1, 1, 5, 0, 0, 0, 0, 1), (156, .if_icmp .ne 10, 3, 18, 1, 85, 0, 0, 0), (159, .iload 5, 2, 1, 5, 0, 0, 0, 0), (161, .iconst 1, 1, 5, 0, 0, 0, 0, 1), (162, .ishr, 1, 7, 7, 0, 0, 0, 0), (163, .goto 10, 3, 20, 0, 90, 0, 0, 0), (166, .iload 5, 2, 1, 5, 0, 0, 0, 0), (168, .iconst 1, 1, 5, 0, 0, 0, 0, 1), (169, .ishr, 1, 7, 7, 0, 0, 0, 0), (170, .bipush (-2), 2, 5, 0, 0, 0, 0, (-2)), (172, .iand, 1, 7, 3, 0, 0, 0, 0), (173, .istore 5, 2, 3, 5, 0, 0, 0, 0), (175, .goto 77, 3, 20, 0, 131, 0, 0, 0), (178, .iload 9, 2, 1, 9, 0, 0, 0, 0), (180, .bipush (-5), 2, 5, 0, 0, 0, 0, (-5)), (182, .if_icmp .ne 17, 3, 18, 1, 104, 0, 0, 0), (185, .iload 5, 2, 1, 5, 0, 0, 0, 0), (187, .iconst 1, 1, 5, 0, 0, 0, 0, 1), (188, .ishr, 1, 7, 7, 0, 0, 0, 0), (189, .iload 5, 2, 1, 5, 0, 0, 0, 0), (191, .iconst 1, 1, 5, 0, 0, 0, 0, 1), (192, .iand, 1, 7, 3, 0, 0, 0, 0), (193, .ior, 1, 7, 4, 0, 0, 0, 0), (194, .istore 5, 2, 3, 5, 0, 0, 0, 0), (196, .goto 56, 3, 20, 0, 131, 0, 0, 0), (199, .iload 9, 2, 1, 9, 0, 0, 0, 0), (201, .bipush (-13), 2, 5, 0, 0, 0, 0, (-13)), (203, .if_icmp .lt 27, 3, 18, 2, 120, 0, 0, 0), (206, .iload 9, 2, 1, 9, 0, 0, 0, 0), (208, .bipush (-11), 2, 5, 0, 0, 0, 0, (-11)), (210, .if_icmp .gt 20, 3, 18, 4, 120, 0, 0, 0), (213, .iload 5, 2, 1, 5, 0, 0, 0, 0), (215, .iconst 1, 1, 5, 0, 0, 0, 0, 1), (216, .ishl, 1, 7, 6, 0, 0, 0, 0), (217, .aload_n 1, 1, 2, 1, 0, 0, 0, 0), (218, .iload 9, 2, 1, 9, 0, 0, 0, 0), (220, .iload_n 2, 1, 1, 2, 0, 0, 0, 0), (221, .invokevirtual 43, 3, 40, 0, 0, 8, 1058, 0), (224, .ior, 1, 7, 4, 0, 0, 0, 0), (225, .istore 5, 2, 3, 5, 0, 0, 0, 0), (227, .goto 25, 3, 20, 0, 131, 0, 0, 0), (230, .iload 7, 2, 1, 7, 0, 0, 0, 0), (232, .iload 9, 2, 1, 9, 0, 0, 0, 0), (234, .ifCond .lt 8, 3, 17, 2, 125, 0, 0, 0), (237, .iload 9, 2, 1, 9, 0, 0, 0, 0), (239, .goto 10, 3, 20, 0, 129, 0, 0, 0), (242, .aload_n 1, 1, 2, 1, 0, 0, 0, 0), (243, .iload 9, 2, 1, 9, 0, 0, 0, 0), (245, .iload_n 2, 1, 1, 2, 0, 0, 0, 0), (246, .invokevirtual 43, 3, 40, 0, 0, 8, 1058, 0), (249, .iadd, 1, 7, 0, 0, 0, 0, 0), (250, .istore 7, 2, 3, 7, 0, 0, 0, 0), (252, .iinc 8 1, 3, 6, 8, 0, 0, 0, 1), (255, .goto (-243), 3, 20, 0, 8, 0, 0, 0), (258, .iload 5, 2, 1, 5, 0, 0, 0, 0), (260, .iconst 1, 1, 5, 0, 0, 0, 0, 1), (261, .iand, 1, 7, 3, 0, 0, 0, 0), (262, .iconst 1, 1, 5, 0, 0, 0, 0, 1), (263, .if_icmp .ne 7, 3, 18, 1, 140, 0, 0, 0), (266, .iconst 1, 1, 5, 0, 0, 0, 0, 1), (267, .goto 4, 3, 20, 0, 141, 0, 0, 0), (270, .iconst 0, 1, 5, 0, 0, 0, 0, 0), (271, .ireturn, 1, 47, 0, 0, 1, 0, 0)]
def cl_La_holds : List (Mr × Nat × Nat) := [(m_Va_measure, 2, 1)]
def ct_La_holds : List (Nat × List Nat) := [(8, [3, 9, 10])]
def sw_La_holds : List (List Nat) := []
set_option maxRecDepth 100000 in
theorem tk_La_holds : TOK m_La_holds cl_La_holds sw_La_holds tb_La_holds := ⟨tokB_ok (by decide +kernel), List.forall_mem_cons.mpr ⟨⟨k_Va_measure, by decide⟩, fun _ h => nomatch h⟩⟩
def tb_La_total : List Ent := [(0, .iconst 0, 1, 5, 0, 0, 0, 0, 0), (1, .istore 4, 2, 3, 4, 0, 0, 0, 0), (3, .iconst 0, 1, 5, 0, 0, 0, 0, 0), (4, .istore 5, 2, 3, 5, 0, 0, 0, 0), (6, .iconst 0, 1, 5, 0, 0, 0, 0, 0), (7, .istore 6, 2, 3, 6, 0, 0, 0, 0), (9, .iload 6, 2, 1, 6, 0, 0, 0, 0), (11, .aload_n 0, 1, 2, 0, 0, 0, 0, 0), (12, .getfield 9, 3, 22, 0, 0, 0, 299, 0), (15, .if_icmp .ge 59, 3, 18, 3, 40, 0, 0, 0), (18, .aload_n 0, 1, 2, 0, 0, 0, 0, 0), (19, .getfield 15, 3, 23, 0, 1, 0, 301, 0), (22, .iload 6, 2, 1, 6, 0, 0, 0, 0), (24, .iaload, 1, 25, 101, 0, 0, 0, 0), (25, .iload_n 3, 1, 1, 3, 0, 0, 0, 0), (26, .if_icmp .ne 33, 3, 18, 1, 33, 0, 0, 0), (29, .aload_n 0, 1, 2, 0, 0, 0, 0, 0), (30, .aload_n 1, 1, 2, 1, 0, 0, 0, 0), (31, .iload_n 2, 1, 1, 2, 0, 0, 0, 0), (32, .iload 5, 2, 1, 5, 0, 0, 0, 0), (34, .aload_n 0, 1, 2, 0, 0, 0, 0, 0), (35, .getfield 22, 3, 23, 0, 3, 0, 303, 0), (38, .iload 6, 2, 1, 6, 0, 0, 0, 0), (40, .iaload, 1, 25, 101, 0, 0, 0, 0), (41, .invokevirtual 39, 3, 40, 0, 0, 1, 1054, 0), (44, .ifCond .eq 15, 3, 17, 0, 33, 0, 0, 0), (47, .iload 4, 2, 1, 4, 0, 0, 0, 0), (49, .aload_n 0, 1, 2, 0, 0, 0, 0, 0), (50, .getfield 19, 3, 23, 0, 2, 0, 302, 0), (53, .iload 6, 2, 1, 6, 0, 0, 0, 0), (55, .iaload, 1, 25, 101, 0, 0, 0, 0), (56, .iadd, 1, 7, 0, 0, 0, 0, 0), (57, .istore 4, 2, 3, 4, 0, 0, 0, 0), (59, .aload_n 0, 1, 2, 0, 0, 0, 0, 0), (60, .getfield 22, 3, 23, 0, 3, 0, 303, 0), (63, .iload 6, 2, 1, 6, 0, 0, 0, 0), (65, .iaload, 1, 25, 101, 0, 0, 0, 0), (66, .istore 5, 2, 3, 5, 0, 0, 0, 0), (68, .iinc 6 1, 3, 6, 6, 0, 0, 0, 1), (71, .goto (-62), 3, 20, 0, 6, 0, 0, 0), (74, .iload 4, 2, 1, 4, 0, 0, 0, 0), (76, .ireturn, 1, 47, 0, 0, 0, 0, 0)]
def cl_La_total : List (Mr × Nat × Nat) := [(m_La_holds, 4, 1)]
def ct_La_total : List (Nat × List Nat) := [(6, [])]
def sw_La_total : List (List Nat) := []
set_option maxRecDepth 100000 in
theorem tk_La_total : TOK m_La_total cl_La_total sw_La_total tb_La_total := ⟨tokB_ok (by decide +kernel), List.forall_mem_cons.mpr ⟨⟨k_La_holds, by decide⟩, fun _ h => nomatch h⟩⟩
def tb_Es_estate : List Ent := [(0, .aload_n 0, 1, 2, 0, 0, 0, 0, 0), (1, .iload_n 1, 1, 1, 1, 0, 0, 0, 0), (2, .invokevirtual 9, 3, 40, 0, 0, 8, 1083, 0), (5, .istore_n 2, 1, 3, 2, 0, 0, 0, 0), (6, .iload_n 2, 1, 1, 2, 0, 0, 0, 0), (7, .iconst (-1), 1, 5, 0, 0, 0, 0, (-1)), (8, .if_icmp .eq 30, 3, 18, 0, 22, 0, 0, 0), (11, .aload_n 0, 1, 2, 0, 0, 0, 0, 0), (12, .getfield 15, 3, 23, 7, 9, 0, 378, 0), (15, .iload_n 2, 1, 1, 2, 0, 0, 0, 0), (16, .iaload, 1, 25, 101, 0, 0, 0, 0), (17, .iload_n 1, 1, 1, 1, 0, 0, 0, 0), (18, .if_icmp .ne 20, 3, 18, 1, 22, 0, 0, 0), (21, .aload_n 0, 1, 2, 0, 0, 0, 0, 0), (22, .iload_n 1, 1, 1, 1, 0, 0, 0, 0), (23, .invokevirtual 19, 3, 40, 1, 0, 8, 540, 0), (26, .ifCond .eq 12, 3, 17, 0, 22, 0, 0, 0), (29, .aload_n 0, 1, 2, 0, 0, 0, 0, 0), (30, .iload_n 1, 1, 1, 1, 0, 0, 0, 0), (31, .invokevirtual 23, 3, 40, 2, 0, 8, 541, 0), (34, .iconst (-1), 1, 5, 0, 0, 0, 0, (-1)), (35, .if_icmp .ne 5, 3, 18, 1, 24, 0, 0, 0), (38, .iconst 0, 1, 5, 0, 0, 0, 0, 0), (39, .ireturn, 1, 47, 0, 0, 0, 0, 0), (40, .aload_n 0, 1, 2, 0, 0, 0, 0, 0), (41, .getfield 26, 3, 23, 7, 7, 0, 368, 0), (44, .iload_n 2, 1, 1, 2, 0, 0, 0, 0), (45, .iaload, 1, 25, 101, 0, 0, 0, 0), (46, .ireturn, 1, 47, 0, 0, 0, 0, 0)]
def cl_Es_estate : List (Mr × Nat × Nat) := [(m_Va_holding, 1, 1), (m_Va_isLiving, 1, 1), (m_Va_successor, 1, 1)]
def ct_Es_estate : List (Nat × List Nat) := []
def sw_Es_estate : List (List Nat) := []
set_option maxRecDepth 100000 in
theorem tk_Es_estate : TOK m_Es_estate cl_Es_estate sw_Es_estate tb_Es_estate := ⟨tokB_ok (by decide +kernel), List.forall_mem_cons.mpr ⟨⟨k_Va_holding, by decide⟩, List.forall_mem_cons.mpr ⟨⟨k_Va_isLiving, by decide⟩, List.forall_mem_cons.mpr ⟨⟨k_Va_successor, by decide⟩, fun _ h => nomatch h⟩⟩⟩⟩
def tb_Es_lost : List Ent := [(0, .aload_n 0, 1, 2, 0, 0, 0, 0, 0), (1, .iload_n 1, 1, 1, 1, 0, 0, 0, 0), (2, .invokevirtual 19, 3, 40, 0, 0, 8, 540, 0), (5, .ifCond .ne 5, 3, 17, 1, 6, 0, 0, 0), (8, .iconst 0, 1, 5, 0, 0, 0, 0, 0), (9, .ireturn, 1, 47, 0, 0, 0, 0, 0), (10, .aload_n 0, 1, 2, 0, 0, 0, 0, 0), (11, .aload_n 0, 1, 2, 0, 0, 0, 0, 0), (12, .iload_n 1, 1, 1, 1, 0, 0, 0, 0), (13, .invokevirtual 29, 3, 40, 1, 0, 8, 1087, 0), (16, .invokevirtual 32, 3, 40, 2, 0, 8, 1088, 0), (19, .aload_n 0, 1, 2, 0, 0, 0, 0, 0), (20, .iload_n 1, 1, 1, 1, 0, 0, 0, 0), (21, .invokestatic 35, 3, 40, 3, 0, 0, 1089, 0), (24, .isub, 1, 7, 1, 0, 0, 0, 0), (25, .ireturn, 1, 47, 0, 0, 0, 0, 0)]
def cl_Es_lost : List (Mr × Nat × Nat) := [(m_Va_isLiving, 1, 1), (m_Va_ownedBy, 1, 1), (m_Va_worthOf, 1, 1), (m_Es_estate, 2, 0)]
def ct_Es_lost : List (Nat × List Nat) := []
def sw_Es_lost : List (List Nat) := []
set_option maxRecDepth 100000 in
theorem tk_Es_lost : TOK m_Es_lost cl_Es_lost sw_Es_lost tb_Es_lost := ⟨tokB_ok (by decide +kernel), List.forall_mem_cons.mpr ⟨⟨k_Va_isLiving, by decide⟩, List.forall_mem_cons.mpr ⟨⟨k_Va_ownedBy, by decide⟩, List.forall_mem_cons.mpr ⟨⟨k_Va_worthOf, by decide⟩, List.forall_mem_cons.mpr ⟨⟨k_Es_estate, by decide⟩, fun _ h => nomatch h⟩⟩⟩⟩⟩
def tb_Es_hangers : List Ent := [(0, .iconst 0, 1, 5, 0, 0, 0, 0, 0), (1, .istore_n 2, 1, 3, 2, 0, 0, 0, 0), (2, .iconst 0, 1, 5, 0, 0, 0, 0, 0), (3, .istore_n 3, 1, 3, 3, 0, 0, 0, 0), (4, .iload_n 3, 1, 1, 3, 0, 0, 0, 0), (5, .aload_n 0, 1, 2, 0, 0, 0, 0, 0), (6, .getfield 44, 3, 22, 7, 0, 0, 339, 0), (9, .if_icmp .ge 32, 3, 18, 3, 25, 0, 0, 0), (12, .aload_n 0, 1, 2, 0, 0, 0, 0, 0), (13, .iload_n 3, 1, 1, 3, 0, 0, 0, 0), (14, .invokevirtual 19, 3, 40, 0, 0, 8, 540, 0), (17, .ifCond .eq 18, 3, 17, 0, 23, 0, 0, 0), (20, .aload_n 0, 1, 2, 0, 0, 0, 0, 0), (21, .iload_n 3, 1, 1, 3, 0, 0, 0, 0), (22, .invokevirtual 23, 3, 40, 1, 0, 8, 541, 0), (25, .iload_n 1, 1, 1, 1, 0, 0, 0, 0), (26, .if_icmp .ne 9, 3, 18, 1, 23, 0, 0, 0), (29, .iload_n 2, 1, 1, 2, 0, 0, 0, 0), (30, .iconst 1, 1, 5, 0, 0, 0, 0, 1), (31, .iload_n 3, 1, 1, 3, 0, 0, 0, 0), (32, .ishl, 1, 7, 6, 0, 0, 0, 0), (33, .ior, 1, 7, 4, 0, 0, 0, 0), (34, .istore_n 2, 1, 3, 2, 0, 0, 0, 0), (35, .iinc 3 1, 3, 6, 3, 0, 0, 0, 1), (38, .goto (-34), 3, 20, 0, 4, 0, 0, 0), (41, .iload_n 2, 1, 1, 2, 0, 0, 0, 0), (42, .ireturn, 1, 47, 0, 0, 0, 0, 0)]
def cl_Es_hangers : List (Mr × Nat × Nat) := [(m_Va_isLiving, 1, 1), (m_Va_successor, 1, 1)]
def ct_Es_hangers : List (Nat × List Nat) := [(4, [])]
def sw_Es_hangers : List (List Nat) := []
set_option maxRecDepth 100000 in
theorem tk_Es_hangers : TOK m_Es_hangers cl_Es_hangers sw_Es_hangers tb_Es_hangers := ⟨tokB_ok (by decide +kernel), List.forall_mem_cons.mpr ⟨⟨k_Va_isLiving, by decide⟩, List.forall_mem_cons.mpr ⟨⟨k_Va_successor, by decide⟩, fun _ h => nomatch h⟩⟩⟩
def tb_Es_hoped : List Ent := [(0, .aload_n 0, 1, 2, 0, 0, 0, 0, 0), (1, .iload_n 1, 1, 1, 1, 0, 0, 0, 0), (2, .invokevirtual 48, 3, 40, 0, 0, 8, 1096, 0), (5, .istore_n 2, 1, 3, 2, 0, 0, 0, 0), (6, .iload_n 2, 1, 1, 2, 0, 0, 0, 0), (7, .ifCond .eq 20, 3, 17, 0, 15, 0, 0, 0), (10, .aload_n 0, 1, 2, 0, 0, 0, 0, 0), (11, .iload_n 1, 1, 1, 1, 0, 0, 0, 0), (12, .invokevirtual 19, 3, 40, 1, 0, 8, 540, 0), (15, .ifCond .eq 12, 3, 17, 0, 15, 0, 0, 0), (18, .aload_n 0, 1, 2, 0, 0, 0, 0, 0), (19, .iload_n 1, 1, 1, 1, 0, 0, 0, 0), (20, .invokevirtual 9, 3, 40, 2, 0, 8, 1083, 0), (23, .iconst (-1), 1, 5, 0, 0, 0, 0, (-1)), (24, .if_icmp .eq 5, 3, 18, 0, 17, 0, 0, 0), (27, .iconst 0, 1, 5, 0, 0, 0, 0, 0), (28, .ireturn, 1, 47, 0, 0, 0, 0, 0), (29, .aload_n 0, 1, 2, 0, 0, 0, 0, 0), (30, .iload_n 1, 1, 1, 1, 0, 0, 0, 0), (31, .invokevirtual 66, 3, 40, 3, 0, 8, 1097, 0), (34, .istore_n 3, 1, 3, 3, 0, 0, 0, 0), (35, .iconst 0, 1, 5, 0, 0, 0, 0, 0), (36, .istore 4, 2, 3, 4, 0, 0, 0, 0), (38, .iconst 0, 1, 5, 0, 0, 0, 0, 0), (39, .istore 5, 2, 3, 5, 0, 0, 0, 0), (41, .iload 5, 2, 1, 5, 0, 0, 0, 0), (43, .aload_n 0, 1, 2, 0, 0, 0, 0, 0), (44, .getfield 69, 3, 22, 7, 6, 0, 365, 0), (47, .if_icmp .ge 42, 3, 18, 3, 51, 0, 0, 0), (50, .iload_n 2, 1, 1, 2, 0, 0, 0, 0), (51, .iload 5, 2, 1, 5, 0, 0, 0, 0), (53, .ishr, 1, 7, 7, 0, 0, 0, 0), (54, .iconst 1, 1, 5, 0, 0, 0, 0, 1), (55, .iand, 1, 7, 3, 0, 0, 0, 0), (56, .iconst 1, 1, 5, 0, 0, 0, 0, 1), (57, .if_icmp .ne 26, 3, 18, 1, 49, 0, 0, 0), (60, .aload_n 0, 1, 2, 0, 0, 0, 0, 0), (61, .getfield 72, 3, 23, 7, 8, 0, 374, 0), (64, .iload 5, 2, 1, 5, 0, 0, 0, 0), (66, .iaload, 1, 25, 101, 0, 0, 0, 0), (67, .iload_n 3, 1, 1, 3, 0, 0, 0, 0), (68, .if_icmp .gt 15, 3, 18, 4, 49, 0, 0, 0), (71, .iload 4, 2, 1, 4, 0, 0, 0, 0), (73, .aload_n 0, 1, 2, 0, 0, 0, 0, 0), (74, .getfield 26, 3, 23, 7, 7, 0, 368, 0), (77, .iload 5, 2, 1, 5, 0, 0, 0, 0), (79, .iaload, 1, 25, 101, 0, 0, 0, 0), (80, .iadd, 1, 7, 0, 0, 0, 0, 0), (81, .istore 4, 2, 3, 4, 0, 0, 0, 0), (83, .iinc 5 1, 3, 6, 5, 0, 0, 0, 1), (86, .goto (-45), 3, 20, 0, 25, 0, 0, 0), (89, .bipush 100, 2, 5, 0, 0, 0, 0, 100), (91, .iload 4, 2, 1, 4, 0, 0, 0, 0), (93, .imul, 1, 7, 2, 0, 0, 0, 0), (94, .iconst 1, 1, 5, 0, 0, 0, 0, 1), (95, .iload_n 2, 1, 1, 2, 0, 0, 0, 0), (96, .invokestatic 55, 3, 40, 4, 0, 0, 531, 0), (99, .invokestatic 60, 3, 54, 0, 0, 0, 1098, 0), (102, .idiv, 1, 8, 0, 0, 0, 0, 0), (103, .ireturn, 1, 47, 0, 0, 0, 0, 0)]
def cl_Es_hoped : List (Mr × Nat × Nat) := [(m_Va_clothOf, 1, 1), (m_Va_isLiving, 1, 1), (m_Va_holding, 1, 1), (m_Va_grips, 1, 1), (m_JI_bitCount, 1, 0)]
def ct_Es_hoped : List (Nat × List Nat) := [(25, [1])]
def sw_Es_hoped : List (List Nat) := []
set_option maxRecDepth 100000 in
theorem tk_Es_hoped : TOK m_Es_hoped cl_Es_hoped sw_Es_hoped tb_Es_hoped := ⟨tokB_ok (by decide +kernel), List.forall_mem_cons.mpr ⟨⟨k_Va_clothOf, by decide⟩, List.forall_mem_cons.mpr ⟨⟨k_Va_isLiving, by decide⟩, List.forall_mem_cons.mpr ⟨⟨k_Va_holding, by decide⟩, List.forall_mem_cons.mpr ⟨⟨k_Va_grips, by decide⟩, List.forall_mem_cons.mpr ⟨⟨k_JI_bitCount, by decide⟩, fun _ h => nomatch h⟩⟩⟩⟩⟩⟩
def tb_Es_share : List Ent := [(0, .aload_n 0, 1, 2, 0, 0, 0, 0, 0), (1, .aload_n 0, 1, 2, 0, 0, 0, 0, 0), (2, .invokevirtual 75, 3, 40, 0, 0, 8, 1120, 0), (5, .invokevirtual 32, 3, 40, 1, 0, 8, 1088, 0), (8, .istore_n 2, 1, 3, 2, 0, 0, 0, 0), (9, .iload_n 2, 1, 1, 2, 0, 0, 0, 0), (10, .ifCond .gt 5, 3, 17, 4, 9, 0, 0, 0), (13, .iconst 0, 1, 5, 0, 0, 0, 0, 0), (14, .ireturn, 1, 47, 0, 0, 0, 0, 0), (15, .bipush 100, 2, 5, 0, 0, 0, 0, 100), (17, .aload_n 0, 1, 2, 0, 0, 0, 0, 0), (18, .aload_n 0, 1, 2, 0, 0, 0, 0, 0), (19, .iload_n 1, 1, 1, 1, 0, 0, 0, 0), (20, .invokevirtual 29, 3, 40, 2, 0, 8, 1087, 0), (23, .invokevirtual 32, 3, 40, 1, 0, 8, 1088, 0), (26, .imul, 1, 7, 2, 0, 0, 0, 0), (27, .iload_n 2, 1, 1, 2, 0, 0, 0, 0), (28, .idiv, 1, 8, 0, 0, 0, 0, 0), (29, .ireturn, 1, 47, 0, 0, 0, 0, 0)]
def cl_Es_share : List (Mr × Nat × Nat) := [(m_Va_allThings, 0, 1), (m_Va_worthOf, 1, 1), (m_Va_ownedBy, 1, 1)]
def ct_Es_share : List (Nat × List Nat) := []
def sw_Es_share : List (List Nat) := []
set_option maxRecDepth 100000 in
theorem tk_Es_share : TOK m_Es_share cl_Es_share sw_Es_share tb_Es_share := ⟨tokB_ok (by decide +kernel), List.forall_mem_cons.mpr ⟨⟨k_Va_allThings, by decide⟩, List.forall_mem_cons.mpr ⟨⟨k_Va_worthOf, by decide⟩, List.forall_mem_cons.mpr ⟨⟨k_Va_ownedBy, by decide⟩, fun _ h => nomatch h⟩⟩⟩⟩
def tb_Es_shutting : List Ent := [(0, .aload_n 0, 1, 2, 0, 0, 0, 0, 0), (1, .iload_n 1, 1, 1, 1, 0, 0, 0, 0), (2, .invokevirtual 48, 3, 40, 0, 0, 8, 1096, 0), (5, .istore_n 3, 1, 3, 3, 0, 0, 0, 0), (6, .iload_n 3, 1, 1, 3, 0, 0, 0, 0), (7, .iload_n 2, 1, 1, 2, 0, 0, 0, 0), (8, .ishr, 1, 7, 7, 0, 0, 0, 0), (9, .iconst 1, 1, 5, 0, 0, 0, 0, 1), (10, .iand, 1, 7, 3, 0, 0, 0, 0), (11, .ifCond .eq 29, 3, 17, 0, 24, 0, 0, 0), (14, .aload_n 0, 1, 2, 0, 0, 0, 0, 0), (15, .iload_n 1, 1, 1, 1, 0, 0, 0, 0), (16, .invokevirtual 19, 3, 40, 1, 0, 8, 540, 0), (19, .ifCond .eq 21, 3, 17, 0, 24, 0, 0, 0), (22, .aload_n 0, 1, 2, 0, 0, 0, 0, 0), (23, .iload_n 1, 1, 1, 1, 0, 0, 0, 0), (24, .invokevirtual 9, 3, 40, 2, 0, 8, 1083, 0), (27, .iconst (-1), 1, 5, 0, 0, 0, 0, (-1)), (28, .if_icmp .ne 12, 3, 18, 1, 24, 0, 0, 0), (31, .aload_n 0, 1, 2, 0, 0, 0, 0, 0), (32, .iload_n 1, 1, 1, 1, 0, 0, 0, 0), (33, .iload_n 2, 1, 1, 2, 0, 0, 0, 0), (34, .invokevirtual 51, 3, 40, 3, 0, 8, 1161, 0), (37, .ifCond .ne 5, 3, 17, 1, 26, 0, 0, 0), (40, .iconst 0, 1, 5, 0, 0, 0, 0, 0), (41, .ireturn, 1, 47, 0, 0, 0, 0, 0), (42, .sipush 10000, 3, 5, 0, 0, 0, 0, 10000), (45, .iconst 1, 1, 5, 0, 0, 0, 0, 1), (46, .iload_n 3, 1, 1, 3, 0, 0, 0, 0), (47, .invokestatic 55, 3, 40, 4, 0, 0, 531, 0), (50, .invokestatic 60, 3, 54, 0, 0, 0, 1098, 0), (53, .idiv, 1, 8, 0, 0, 0, 0, 0), (54, .ireturn, 1, 47, 0, 0, 0, 0, 0)]
def cl_Es_shutting : List (Mr × Nat × Nat) := [(m_Va_clothOf, 1, 1), (m_Va_isLiving, 1, 1), (m_Va_holding, 1, 1), (m_Va_fits, 2, 1), (m_JI_bitCount, 1, 0)]
def ct_Es_shutting : List (Nat × List Nat) := []
def sw_Es_shutting : List (List Nat) := []
set_option maxRecDepth 100000 in
theorem tk_Es_shutting : TOK m_Es_shutting cl_Es_shutting sw_Es_shutting tb_Es_shutting := ⟨tokB_ok (by decide +kernel), List.forall_mem_cons.mpr ⟨⟨k_Va_clothOf, by decide⟩, List.forall_mem_cons.mpr ⟨⟨k_Va_isLiving, by decide⟩, List.forall_mem_cons.mpr ⟨⟨k_Va_holding, by decide⟩, List.forall_mem_cons.mpr ⟨⟨k_Va_fits, by decide⟩, List.forall_mem_cons.mpr ⟨⟨k_JI_bitCount, by decide⟩, fun _ h => nomatch h⟩⟩⟩⟩⟩⟩
def tb_Lo_add : List Ent := [(0, .aload_n 0, 1, 2, 0, 0, 0, 0, 0), (1, .getfield 15, 3, 22, 2, 1, 0, 328, 0), (4, .iconst 5, 1, 5, 0, 0, 0, 0, 5), (5, .imul, 1, 7, 2, 0, 0, 0, 0), (6, .istore 6, 2, 3, 6, 0, 0, 0, 0), (8, .aload_n 0, 1, 2, 0, 0, 0, 0, 0), (9, .getfield 11, 3, 23, 2, 0, 0, 327, 0), (12, .iload 6, 2, 1, 6, 0, 0, 0, 0), (14, .iload_n 1, 1, 1, 1, 0, 0, 0, 0), (15, .iastore, 1, 28, 0, 0, 0, 0, 0), (16, .aload_n 0, 1, 2, 0, 0, 0, 0, 0), (17, .getfield 11, 3, 23, 2, 0, 0, 327, 0), (20, .iload 6, 2, 1, 6, 0, 0, 0, 0), (22, .iconst 1, 1, 5, 0, 0, 0, 0, 1), (23, .iadd, 1, 7, 0, 0, 0, 0, 0), (24, .iload_n 2, 1, 1, 2, 0, 0, 0, 0), (25, .iastore, 1, 28, 0, 0, 0, 0, 0), (26, .aload_n 0, 1, 2, 0, 0, 0, 0, 0), (27, .getfield 11, 3, 23, 2, 0, 0, 327, 0), (30, .iload 6, 2, 1, 6, 0, 0, 0, 0), (32, .iconst 2, 1, 5, 0, 0, 0, 0, 2), (33, .iadd, 1, 7, 0, 0, 0, 0, 0), (34, .iload_n 3, 1, 1, 3, 0, 0, 0, 0), (35, .iastore, 1, 28, 0, 0, 0, 0, 0), (36, .aload_n 0, 1, 2, 0, 0, 0, 0, 0), (37, .getfield 11, 3, 23, 2, 0, 0, 327, 0), (40, .iload 6, 2, 1, 6, 0, 0, 0, 0), (42, .iconst 3, 1, 5, 0, 0, 0, 0, 3), (43, .iadd, 1, 7, 0, 0, 0, 0, 0), (44, .iload 4, 2, 1, 4, 0, 0, 0, 0), (46, .iastore, 1, 28, 0, 0, 0, 0, 0), (47, .aload_n 0, 1, 2, 0, 0, 0, 0, 0), (48, .getfield 11, 3, 23, 2, 0, 0, 327, 0), (51, .iload 6, 2, 1, 6, 0, 0, 0, 0), (53, .iconst 4, 1, 5, 0, 0, 0, 0, 4), (54, .iadd, 1, 7, 0, 0, 0, 0, 0), (55, .iload 5, 2, 1, 5, 0, 0, 0, 0), (57, .iastore, 1, 28, 0, 0, 0, 0, 0), (58, .aload_n 0, 1, 2, 0, 0, 0, 0, 0), (59, .aload_n 0, 1, 2, 0, 0, 0, 0, 0), (60, .getfield 15, 3, 22, 2, 1, 0, 328, 0), (63, .iconst 1, 1, 5, 0, 0, 0, 0, 1), (64, .iadd, 1, 7, 0, 0, 0, 0, 0), (65, .bipush 60, 2, 5, 0, 0, 0, 0, 60), (67, .irem, 1, 9, 0, 0, 0, 0, 0), (68, .putfield 15, 3, 24, 2, 1, 0, 328, 0), (71, .aload_n 0, 1, 2, 0, 0, 0, 0, 0), (72, .aload_n 0, 1, 2, 0, 0, 0, 0, 0), (73, .getfield 19, 3, 22, 2, 2, 0, 329, 0), (76, .iconst 1, 1, 5, 0, 0, 0, 0, 1), (77, .iadd, 1, 7, 0, 0, 0, 0, 0), (78, .bipush 60, 2, 5, 0, 0, 0, 0, 60), (80, .invokestatic 28, 3, 55, 0, 0, 0, 1192, 0), (83, .putfield 19, 3, 24, 2, 2, 0, 329, 0), (86, .return_, 1, 49, 0, 0, 0, 0, 0)]
def cl_Lo_add : List (Mr × Nat × Nat) := []
def ct_Lo_add : List (Nat × List Nat) := []
def sw_Lo_add : List (List Nat) := []
set_option maxRecDepth 100000 in
theorem tk_Lo_add : TOK m_Lo_add cl_Lo_add sw_Lo_add tb_Lo_add := ⟨tokB_ok (by decide +kernel), fun _ h => nomatch h⟩
def tb_Es_sizeOf : List Ent := [(0, .iconst 0, 1, 5, 0, 0, 0, 0, 0), (1, .istore_n 2, 1, 3, 2, 0, 0, 0, 0), (2, .iconst 0, 1, 5, 0, 0, 0, 0, 0), (3, .istore_n 3, 1, 3, 3, 0, 0, 0, 0), (4, .iload_n 3, 1, 1, 3, 0, 0, 0, 0), (5, .aload_n 0, 1, 2, 0, 0, 0, 0, 0), (6, .getfield 69, 3, 22, 7, 6, 0, 365, 0), (9, .if_icmp .ge 24, 3, 18, 3, 23, 0, 0, 0), (12, .iload_n 2, 1, 1, 2, 0, 0, 0, 0), (13, .iload_n 1, 1, 1, 1, 0, 0, 0, 0), (14, .iload_n 3, 1, 1, 3, 0, 0, 0, 0), (15, .ishr, 1, 7, 7, 0, 0, 0, 0), (16, .iconst 1, 1, 5, 0, 0, 0, 0, 1), (17, .iand, 1, 7, 3, 0, 0, 0, 0), (18, .aload_n 0, 1, 2, 0, 0, 0, 0, 0), (19, .getfield 72, 3, 23, 7, 8, 0, 374, 0), (22, .iload_n 3, 1, 1, 3, 0, 0, 0, 0), (23, .iaload, 1, 25, 101, 0, 0, 0, 0), (24, .imul, 1, 7, 2, 0, 0, 0, 0), (25, .iadd, 1, 7, 0, 0, 0, 0, 0), (26, .istore_n 2, 1, 3, 2, 0, 0, 0, 0), (27, .iinc 3 1, 3, 6, 3, 0, 0, 0, 1), (30, .goto (-26), 3, 20, 0, 4, 0, 0, 0), (33, .iload_n 2, 1, 1, 2, 0, 0, 0, 0), (34, .ireturn, 1, 47, 0, 0, 0, 0, 0)]
def cl_Es_sizeOf : List (Mr × Nat × Nat) := []
def ct_Es_sizeOf : List (Nat × List Nat) := [(4, [])]
def sw_Es_sizeOf : List (List Nat) := []
set_option maxRecDepth 100000 in
theorem tk_Es_sizeOf : TOK m_Es_sizeOf cl_Es_sizeOf sw_Es_sizeOf tb_Es_sizeOf := ⟨tokB_ok (by decide +kernel), fun _ h => nomatch h⟩
def tb_Es_basket : List Ent := [(0, .aload_n 0, 1, 2, 0, 0, 0, 0, 0), (1, .iload_n 1, 1, 1, 1, 0, 0, 0, 0), (2, .invokevirtual 29, 3, 40, 0, 0, 8, 1087, 0), (5, .istore_n 3, 1, 3, 3, 0, 0, 0, 0), (6, .iconst 0, 1, 5, 0, 0, 0, 0, 0), (7, .istore 4, 2, 3, 4, 0, 0, 0, 0), (9, .iconst 0, 1, 5, 0, 0, 0, 0, 0), (10, .istore 5, 2, 3, 5, 0, 0, 0, 0), (12, .iconst 1, 1, 5, 0, 0, 0, 0, 1), (13, .istore 6, 2, 3, 6, 0, 0, 0, 0), (15, .iload 6, 2, 1, 6, 0, 0, 0, 0), (17, .iload_n 3, 1, 1, 3, 0, 0, 0, 0), (18, .if_icmp .gt 74, 3, 18, 4, 46, 0, 0, 0), (21, .iload 6, 2, 1, 6, 0, 0, 0, 0), (23, .iload_n 3, 1, 1, 3, 0, 0, 0, 0), (24, .iconst (-1), 1, 5, 0, 0, 0, 0, (-1)), (25, .ixor, 1, 7, 5, 0, 0, 0, 0), (26, .iand, 1, 7, 3, 0, 0, 0, 0), (27, .ifCond .ne 59, 3, 17, 1, 44, 0, 0, 0), (30, .aload_n 0, 1, 2, 0, 0, 0, 0, 0), (31, .iload 6, 2, 1, 6, 0, 0, 0, 0), (33, .invokestatic 79, 3, 40, 1, 0, 0, 1320, 0), (36, .iload_n 2, 1, 1, 2, 0, 0, 0, 0), (37, .if_icmp .le 6, 3, 18, 5, 25, 0, 0, 0), (40, .goto 46, 3, 20, 0, 44, 0, 0, 0), (43, .aload_n 0, 1, 2, 0, 0, 0, 0, 0), (44, .iload 6, 2, 1, 6, 0, 0, 0, 0), (46, .invokevirtual 32, 3, 40, 2, 0, 8, 1088, 0), (49, .istore 7, 2, 3, 7, 0, 0, 0, 0), (51, .iload 7, 2, 1, 7, 0, 0, 0, 0), (53, .iload 5, 2, 1, 5, 0, 0, 0, 0), (55, .if_icmp .gt 23, 3, 18, 4, 40, 0, 0, 0), (58, .iload 7, 2, 1, 7, 0, 0, 0, 0), (60, .iload 5, 2, 1, 5, 0, 0, 0, 0), (62, .if_icmp .ne 24, 3, 18, 1, 44, 0, 0, 0), (65, .iload 6, 2, 1, 6, 0, 0, 0, 0), (67, .invokestatic 55, 3, 40, 3, 0, 0, 531, 0), (70, .iload 4, 2, 1, 4, 0, 0, 0, 0), (72, .invokestatic 55, 3, 40, 3, 0, 0, 531, 0), (75, .if_icmp .ge 11, 3, 18, 3, 44, 0, 0, 0), (78, .iload 7, 2, 1, 7, 0, 0, 0, 0), (80, .istore 5, 2, 3, 5, 0, 0, 0, 0), (82, .iload 6, 2, 1, 6, 0, 0, 0, 0), (84, .istore 4, 2, 3, 4, 0, 0, 0, 0), (86, .iinc 6 1, 3, 6, 6, 0, 0, 0, 1), (89, .goto (-74), 3, 20, 0, 10, 0, 0, 0), (92, .iload 4, 2, 1, 4, 0, 0, 0, 0), (94, .ireturn, 1, 47, 0, 0, 0, 0, 0)]
def cl_Es_basket : List (Mr × Nat × Nat) := [(m_Va_ownedBy, 1, 1), (m_Es_sizeOf, 2, 0), (m_Va_worthOf, 1, 1), (m_JI_bitCount, 1, 0)]
def ct_Es_basket : List (Nat × List Nat) := [(10, [1, 7])]
def sw_Es_basket : List (List Nat) := []
set_option maxRecDepth 100000 in
theorem tk_Es_basket : TOK m_Es_basket cl_Es_basket sw_Es_basket tb_Es_basket := ⟨tokB_ok (by decide +kernel), List.forall_mem_cons.mpr ⟨⟨k_Va_ownedBy, by decide⟩, List.forall_mem_cons.mpr ⟨⟨k_Es_sizeOf, by decide⟩, List.forall_mem_cons.mpr ⟨⟨k_Va_worthOf, by decide⟩, List.forall_mem_cons.mpr ⟨⟨k_JI_bitCount, by decide⟩, fun _ h => nomatch h⟩⟩⟩⟩⟩
def tb_Td_hasRows : List Ent := [(0, .aload_n 0, 1, 2, 0, 0, 0, 0, 0), (1, .getfield 19, 3, 22, 5, 2, 0, 181, 0), (4, .bipush 40, 2, 5, 0, 0, 0, 0, 40), (6, .if_icmp .gt 16, 3, 18, 4, 11, 0, 0, 0), (9, .aload_n 0, 1, 2, 0, 0, 0, 0, 0), (10, .getfield 19, 3, 22, 5, 2, 0, 181, 0), (13, .iconst 2, 1, 5, 0, 0, 0, 0, 2), (14, .irem, 1, 9, 0, 0, 0, 0, 0), (15, .ifCond .ne 7, 3, 17, 1, 11, 0, 0, 0), (18, .iconst 1, 1, 5, 0, 0, 0, 0, 1), (19, .goto 4, 3, 20, 0, 12, 0, 0, 0), (22, .iconst 0, 1, 5, 0, 0, 0, 0, 0), (23, .ireturn, 1, 47, 0, 0, 1, 0, 0)]
def cl_Td_hasRows : List (Mr × Nat × Nat) := []
def ct_Td_hasRows : List (Nat × List Nat) := []
def sw_Td_hasRows : List (List Nat) := []
set_option maxRecDepth 100000 in
theorem tk_Td_hasRows : TOK m_Td_hasRows cl_Td_hasRows sw_Td_hasRows tb_Td_hasRows := ⟨tokB_ok (by decide +kernel), fun _ h => nomatch h⟩
def tb_Td_tellsThings : List Ent := [(0, .aload_n 0, 1, 2, 0, 0, 0, 0, 0), (1, .invokestatic 15, 3, 40, 0, 0, 0, 1365, 0), (4, .ifCond .ne 5, 3, 17, 1, 5, 0, 0, 0), (7, .iconst 0, 1, 5, 0, 0, 0, 0, 0), (8, .ireturn, 1, 47, 0, 0, 1, 0, 0), (9, .iconst 0, 1, 5, 0, 0, 0, 0, 0), (10, .istore_n 1, 1, 3, 1, 0, 0, 0, 0), (11, .iload_n 1, 1, 1, 1, 0, 0, 0, 0), (12, .aload_n 0, 1, 2, 0, 0, 0, 0, 0), (13, .getfield 19, 3, 22, 5, 2, 0, 181, 0), (16, .if_icmp .ge 32, 3, 18, 3, 27, 0, 0, 0), (19, .aload_n 0, 1, 2, 0, 0, 0, 0, 0), (20, .iload_n 1, 1, 1, 1, 0, 0, 0, 0), (21, .invokevirtual 25, 3, 40, 1, 0, 6, 1368, 0), (24, .iconst 3, 1, 5, 0, 0, 0, 0, 3), (25, .if_icmp .ge 15, 3, 18, 3, 23, 0, 0, 0), (28, .aload_n 0, 1, 2, 0, 0, 0, 0, 0), (29, .iload_n 1, 1, 1, 1, 0, 0, 0, 0), (30, .iconst 1, 1, 5, 0, 0, 0, 0, 1), (31, .iadd, 1, 7, 0, 0, 0, 0, 0), (32, .invokevirtual 25, 3, 40, 1, 0, 6, 1368, 0), (35, .bipush 99, 2, 5, 0, 0, 0, 0, 99), (37, .if_icmp .le 5, 3, 18, 5, 25, 0, 0, 0), (40, .iconst 0, 1, 5, 0, 0, 0, 0, 0), (41, .ireturn, 1, 47, 0, 0, 1, 0, 0), (42, .iinc 1 2, 3, 6, 1, 0, 0, 0, 2), (45, .goto (-34), 3, 20, 0, 7, 0, 0, 0), (48, .iconst 1, 1, 5, 0, 0, 0, 0, 1), (49, .ireturn, 1, 47, 0, 0, 1, 0, 0)]
def cl_Td_tellsThings : List (Mr × Nat × Nat) := [(m_Td_hasRows, 1, 0), (m_Ta_at, 1, 1)]
def ct_Td_tellsThings : List (Nat × List Nat) := [(7, [])]
def sw_Td_tellsThings : List (List Nat) := []
set_option maxRecDepth 100000 in
theorem tk_Td_tellsThings : TOK m_Td_tellsThings cl_Td_tellsThings sw_Td_tellsThings tb_Td_tellsThings := ⟨tokB_ok (by decide +kernel), List.forall_mem_cons.mpr ⟨⟨k_Td_hasRows, by decide⟩, List.forall_mem_cons.mpr ⟨⟨k_Ta_at, by decide⟩, fun _ h => nomatch h⟩⟩⟩
def tb_Td_tellable : List Ent := [(0, .iload_n 2, 1, 1, 2, 0, 0, 0, 0), (1, .iconst 2, 1, 5, 0, 0, 0, 0, 2), (2, .if_icmp .ne 25, 3, 18, 1, 16, 0, 0, 0), (5, .aload_n 0, 1, 2, 0, 0, 0, 0, 0), (6, .getfield 60, 3, 23, 7, 9, 0, 380, 0), (9, .iload_n 1, 1, 1, 1, 0, 0, 0, 0), (10, .iaload, 1, 25, 101, 0, 0, 0, 0), (11, .iconst (-1), 1, 5, 0, 0, 0, 0, (-1)), (12, .if_icmp .ne 8, 3, 18, 1, 11, 0, 0, 0), (15, .bipush 9, 2, 5, 0, 0, 0, 0, 9), (17, .goto 9, 3, 20, 0, 15, 0, 0, 0), (20, .aload_n 0, 1, 2, 0, 0, 0, 0, 0), (21, .getfield 60, 3, 23, 7, 9, 0, 380, 0), (24, .iload_n 1, 1, 1, 1, 0, 0, 0, 0), (25, .iaload, 1, 25, 101, 0, 0, 0, 0), (26, .ireturn, 1, 47, 0, 0, 0, 0, 0), (27, .iload_n 2, 1, 1, 2, 0, 0, 0, 0), (28, .ifCond .ne 12, 3, 17, 1, 23, 0, 0, 0), (31, .aload_n 0, 1, 2, 0, 0, 0, 0, 0), (32, .getfield 38, 3, 23, 7, 7, 0, 370, 0), (35, .iload_n 1, 1, 1, 1, 0, 0, 0, 0), (36, .iaload, 1, 25, 101, 0, 0, 0, 0), (37, .goto 9, 3, 20, 0, 27, 0, 0, 0), (40, .aload_n 0, 1, 2, 0, 0, 0, 0, 0), (41, .getfield 63, 3, 23, 7, 8, 0, 376, 0), (44, .iload_n 1, 1, 1, 1, 0, 0, 0, 0), (45, .iaload, 1, 25, 101, 0, 0, 0, 0), (46, .ireturn, 1, 47, 0, 0, 0, 0, 0)]
def cl_Td_tellable : List (Mr × Nat × Nat) := []
def ct_Td_tellable : List (Nat × List Nat) := []
def sw_Td_tellable : List (List Nat) := []
set_option maxRecDepth 100000 in
theorem tk_Td_tellable : TOK m_Td_tellable cl_Td_tellable sw_Td_tellable tb_Td_tellable := ⟨tokB_ok (by decide +kernel), fun _ h => nomatch h⟩
def tb_Td_wrongOfThing : List Ent := [(0, .iconst 0, 1, 5, 0, 0, 0, 0, 0), (1, .istore_n 3, 1, 3, 3, 0, 0, 0, 0), (2, .iconst 0, 1, 5, 0, 0, 0, 0, 0), (3, .istore 4, 2, 3, 4, 0, 0, 0, 0), (5, .iload 4, 2, 1, 4, 0, 0, 0, 0), (7, .aload_n 0, 1, 2, 0, 0, 0, 0, 0), (8, .getfield 19, 3, 22, 5, 2, 0, 181, 0), (11, .if_icmp .ge 34, 3, 18, 3, 23, 0, 0, 0), (14, .aload_n 1, 1, 2, 1, 0, 0, 0, 0), (15, .iload_n 2, 1, 1, 2, 0, 0, 0, 0), (16, .aload_n 0, 1, 2, 0, 0, 0, 0, 0), (17, .iload 4, 2, 1, 4, 0, 0, 0, 0), (19, .invokevirtual 25, 3, 40, 0, 0, 6, 1368, 0), (22, .invokestatic 51, 3, 40, 1, 0, 0, 1375, 0), (25, .aload_n 0, 1, 2, 0, 0, 0, 0, 0), (26, .iload 4, 2, 1, 4, 0, 0, 0, 0), (28, .iconst 1, 1, 5, 0, 0, 0, 0, 1), (29, .iadd, 1, 7, 0, 0, 0, 0, 0), (30, .invokevirtual 25, 3, 40, 0, 0, 6, 1368, 0), (33, .if_icmp .eq 6, 3, 18, 0, 21, 0, 0, 0), (36, .iinc 3 1, 3, 6, 3, 0, 0, 0, 1), (39, .iinc 4 2, 3, 6, 4, 0, 0, 0, 2), (42, .goto (-37), 3, 20, 0, 4, 0, 0, 0), (45, .iload_n 3, 1, 1, 3, 0, 0, 0, 0), (46, .ireturn, 1, 47, 0, 0, 0, 0, 0)]
def cl_Td_wrongOfThing : List (Mr × Nat × Nat) := [(m_Ta_at, 1, 1), (m_Td_tellable, 3, 0)]
def ct_Td_wrongOfThing : List (Nat × List Nat) := [(4, [])]
def sw_Td_wrongOfThing : List (List Nat) := []
set_option maxRecDepth 100000 in
theorem tk_Td_wrongOfThing : TOK m_Td_wrongOfThing cl_Td_wrongOfThing sw_Td_wrongOfThing tb_Td_wrongOfThing := ⟨tokB_ok (by decide +kernel), List.forall_mem_cons.mpr ⟨⟨k_Ta_at, by decide⟩, List.forall_mem_cons.mpr ⟨⟨k_Td_tellable, by decide⟩, fun _ h => nomatch h⟩⟩⟩
def tb_Td_fittingThings : List Ent := [(0, .iconst 0, 1, 5, 0, 0, 0, 0, 0), (1, .istore_n 2, 1, 3, 2, 0, 0, 0, 0), (2, .iconst 0, 1, 5, 0, 0, 0, 0, 0), (3, .istore_n 3, 1, 3, 3, 0, 0, 0, 0), (4, .iload_n 3, 1, 1, 3, 0, 0, 0, 0), (5, .aload_n 1, 1, 2, 1, 0, 0, 0, 0), (6, .getfield 29, 3, 22, 7, 6, 0, 363, 0), (9, .if_icmp .ge 25, 3, 18, 3, 22, 0, 0, 0), (12, .aload_n 0, 1, 2, 0, 0, 0, 0, 0), (13, .aload_n 1, 1, 2, 1, 0, 0, 0, 0), (14, .iload_n 3, 1, 1, 3, 0, 0, 0, 0), (15, .invokestatic 34, 3, 40, 0, 0, 0, 1372, 0), (18, .iconst 1, 1, 5, 0, 0, 0, 0, 1), (19, .if_icmp .gt 9, 3, 18, 4, 20, 0, 0, 0), (22, .iload_n 2, 1, 1, 2, 0, 0, 0, 0), (23, .iconst 1, 1, 5, 0, 0, 0, 0, 1), (24, .iload_n 3, 1, 1, 3, 0, 0, 0, 0), (25, .ishl, 1, 7, 6, 0, 0, 0, 0), (26, .ior, 1, 7, 4, 0, 0, 0, 0), (27, .istore_n 2, 1, 3, 2, 0, 0, 0, 0), (28, .iinc 3 1, 3, 6, 3, 0, 0, 0, 1), (31, .goto (-27), 3, 20, 0, 4, 0, 0, 0), (34, .iload_n 2, 1, 1, 2, 0, 0, 0, 0), (35, .ireturn, 1, 47, 0, 0, 0, 0, 0)]
def cl_Td_fittingThings : List (Mr × Nat × Nat) := [(m_Td_wrongOfThing, 3, 0)]
def ct_Td_fittingThings : List (Nat × List Nat) := [(4, [])]
def sw_Td_fittingThings : List (List Nat) := []
set_option maxRecDepth 100000 in
theorem tk_Td_fittingThings : TOK m_Td_fittingThings cl_Td_fittingThings sw_Td_fittingThings tb_Td_fittingThings := ⟨tokB_ok (by decide +kernel), List.forall_mem_cons.mpr ⟨⟨k_Td_wrongOfThing, by decide⟩, fun _ h => nomatch h⟩⟩
def tb_Td_likeliestThing : List Ent := [(0, .iconst (-1), 1, 5, 0, 0, 0, 0, (-1)), (1, .istore_n 2, 1, 3, 2, 0, 0, 0, 0), (2, .iconst 2, 1, 5, 0, 0, 0, 0, 2), (3, .istore_n 3, 1, 3, 3, 0, 0, 0, 0), (4, .iconst 0, 1, 5, 0, 0, 0, 0, 0), (5, .istore 4, 2, 3, 4, 0, 0, 0, 0), (7, .iload 4, 2, 1, 4, 0, 0, 0, 0), (9, .aload_n 1, 1, 2, 1, 0, 0, 0, 0), (10, .getfield 29, 3, 22, 7, 6, 0, 363, 0), (13, .if_icmp .ge 69, 3, 18, 3, 45, 0, 0, 0), (16, .aload_n 0, 1, 2, 0, 0, 0, 0, 0), (17, .aload_n 1, 1, 2, 1, 0, 0, 0, 0), (18, .iload 4, 2, 1, 4, 0, 0, 0, 0), (20, .invokestatic 34, 3, 40, 0, 0, 0, 1372, 0), (23, .istore 5, 2, 3, 5, 0, 0, 0, 0), (25, .iload_n 2, 1, 1, 2, 0, 0, 0, 0), (26, .iconst (-1), 1, 5, 0, 0, 0, 0, (-1)), (27, .if_icmp .eq 29, 3, 18, 0, 32, 0, 0, 0), (30, .iload 5, 2, 1, 5, 0, 0, 0, 0), (32, .iload_n 3, 1, 1, 3, 0, 0, 0, 0), (33, .if_icmp .ne 23, 3, 18, 1, 32, 0, 0, 0), (36, .aload_n 1, 1, 2, 1, 0, 0, 0, 0), (37, .getfield 38, 3, 23, 7, 7, 0, 370, 0), (40, .iload 4, 2, 1, 4, 0, 0, 0, 0), (42, .iaload, 1, 25, 101, 0, 0, 0, 0), (43, .aload_n 1, 1, 2, 1, 0, 0, 0, 0), (44, .getfield 38, 3, 23, 7, 7, 0, 370, 0), (47, .iload_n 2, 1, 1, 2, 0, 0, 0, 0), (48, .iaload, 1, 25, 101, 0, 0, 0, 0), (49, .if_icmp .le 7, 3, 18, 5, 32, 0, 0, 0), (52, .iconst 1, 1, 5, 0, 0, 0, 0, 1), (53, .goto 4, 3, 20, 0, 33, 0, 0, 0), (56, .iconst 0, 1, 5, 0, 0, 0, 0, 0), (57, .istore 6, 2, 3, 6, 0, 0, 0, 0), (59, .iload 5, 2, 1, 5, 0, 0, 0, 0), (61, .iload_n 3, 1, 1, 3, 0, 0, 0, 0), (62, .if_icmp .lt 8, 3, 18, 2, 39, 0, 0, 0), (65, .iload 6, 2, 1, 6, 0, 0, 0, 0), (67, .ifCond .eq 9, 3, 17, 0, 43, 0, 0, 0), (70, .iload 5, 2, 1, 5, 0, 0, 0, 0), (72, .istore_n 3, 1, 3, 3, 0, 0, 0, 0), (73, .iload 4, 2, 1, 4, 0, 0, 0, 0), (75, .istore_n 2, 1, 3, 2, 0, 0, 0, 0), (76, .iinc 4 1, 3, 6, 4, 0, 0, 0, 1), (79, .goto (-72), 3, 20, 0, 6, 0, 0, 0), (82, .iload_n 2, 1, 1, 2, 0, 0, 0, 0), (83, .ireturn, 1, 47, 0, 0, 0, 0, 0)]
def cl_Td_likeliestThing : List (Mr × Nat × Nat) := [(m_Td_wrongOfThing, 3, 0)]
def ct_Td_likeliestThing : List (Nat × List Nat) := [(6, [5, 6])]
def sw_Td_likeliestThing : List (List Nat) := []
set_option maxRecDepth 100000 in
theorem tk_Td_likeliestThing : TOK m_Td_likeliestThing cl_Td_likeliestThing sw_Td_likeliestThing tb_Td_likeliestThing := ⟨tokB_ok (by decide +kernel), List.forall_mem_cons.mpr ⟨⟨k_Td_wrongOfThing, by decide⟩, fun _ h => nomatch h⟩⟩
def tb_Td_greatestPart : List Ent := [(0, .iconst 0, 1, 5, 0, 0, 0, 0, 0), (1, .istore_n 3, 1, 3, 3, 0, 0, 0, 0), (2, .iconst 0, 1, 5, 0, 0, 0, 0, 0), (3, .istore 4, 2, 3, 4, 0, 0, 0, 0), (5, .iload 4, 2, 1, 4, 0, 0, 0, 0), (7, .aload_n 0, 1, 2, 0, 0, 0, 0, 0), (8, .getfield 29, 3, 22, 7, 6, 0, 363, 0), (11, .if_icmp .ge 81, 3, 18, 3, 50, 0, 0, 0), (14, .iconst 0, 1, 5, 0, 0, 0, 0, 0), (15, .istore 5, 2, 3, 5, 0, 0, 0, 0), (17, .iconst 0, 1, 5, 0, 0, 0, 0, 0), (18, .istore 6, 2, 3, 6, 0, 0, 0, 0), (20, .iload 6, 2, 1, 6, 0, 0, 0, 0), (22, .aload_n 0, 1, 2, 0, 0, 0, 0, 0), (23, .getfield 29, 3, 22, 7, 6, 0, 363, 0), (26, .if_icmp .ge 39, 3, 18, 3, 35, 0, 0, 0), (29, .iload_n 1, 1, 1, 1, 0, 0, 0, 0), (30, .iload 6, 2, 1, 6, 0, 0, 0, 0), (32, .ishr, 1, 7, 7, 0, 0, 0, 0), (33, .iconst 1, 1, 5, 0, 0, 0, 0, 1), (34, .iand, 1, 7, 3, 0, 0, 0, 0), (35, .iconst 1, 1, 5, 0, 0, 0, 0, 1), (36, .if_icmp .ne 23, 3, 18, 1, 33, 0, 0, 0), (39, .aload_n 0, 1, 2, 0, 0, 0, 0, 0), (40, .iload 6, 2, 1, 6, 0, 0, 0, 0), (42, .iload_n 2, 1, 1, 2, 0, 0, 0, 0), (43, .invokestatic 51, 3, 40, 0, 0, 0, 1375, 0), (46, .aload_n 0, 1, 2, 0, 0, 0, 0, 0), (47, .iload 4, 2, 1, 4, 0, 0, 0, 0), (49, .iload_n 2, 1, 1, 2, 0, 0, 0, 0), (50, .invokestatic 51, 3, 40, 0, 0, 0, 1375, 0), (53, .if_icmp .ne 6, 3, 18, 1, 33, 0, 0, 0), (56, .iinc 5 1, 3, 6, 5, 0, 0, 0, 1), (59, .iinc 6 1, 3, 6, 6, 0, 0, 0, 1), (62, .goto (-42), 3, 20, 0, 12, 0, 0, 0), (65, .iload_n 1, 1, 1, 1, 0, 0, 0, 0), (66, .iload 4, 2, 1, 4, 0, 0, 0, 0), (68, .ishr, 1, 7, 7, 0, 0, 0, 0), (69, .iconst 1, 1, 5, 0, 0, 0, 0, 1), (70, .iand, 1, 7, 3, 0, 0, 0, 0), (71, .iconst 1, 1, 5, 0, 0, 0, 0, 1), (72, .if_icmp .ne 12, 3, 18, 1, 46, 0, 0, 0), (75, .iload_n 3, 1, 1, 3, 0, 0, 0, 0), (76, .iload 5, 2, 1, 5, 0, 0, 0, 0), (78, .invokestatic 54, 3, 54, 0, 0, 0, 1402, 0), (81, .goto 4, 3, 20, 0, 47, 0, 0, 0), (84, .iload_n 3, 1, 1, 3, 0, 0, 0, 0), (85, .istore_n 3, 1, 3, 3, 0, 0, 0, 0), (86, .iinc 4 1, 3, 6, 4, 0, 0, 0, 1), (89, .goto (-84), 3, 20, 0, 4, 0, 0, 0), (92, .iload_n 3, 1, 1, 3, 0, 0, 0, 0), (93, .ireturn, 1, 47, 0, 0, 0, 0, 0)]
def cl_Td_greatestPart : List (Mr × Nat × Nat) := [(m_Td_tellable, 3, 0)]
def ct_Td_greatestPart : List (Nat × List Nat) := [(4, [5, 6]), (12, [])]
def sw_Td_greatestPart : List (List Nat) := []
set_option maxRecDepth 100000 in
theorem tk_Td_greatestPart : TOK m_Td_greatestPart cl_Td_greatestPart sw_Td_greatestPart tb_Td_greatestPart := ⟨tokB_ok (by decide +kernel), List.forall_mem_cons.mpr ⟨⟨k_Td_tellable, by decide⟩, fun _ h => nomatch h⟩⟩
def tb_Td_bestQuestion : List Ent := [(0, .iload_n 1, 1, 1, 1, 0, 0, 0, 0), (1, .invokestatic 42, 3, 40, 0, 0, 0, 1398, 0), (4, .iconst 2, 1, 5, 0, 0, 0, 0, 2), (5, .if_icmp .ge 5, 3, 18, 3, 6, 0, 0, 0), (8, .iconst (-1), 1, 5, 0, 0, 0, 0, (-1)), (9, .ireturn, 1, 47, 0, 0, 0, 0, 0), (10, .iconst (-1), 1, 5, 0, 0, 0, 0, (-1)), (11, .istore_n 2, 1, 3, 2, 0, 0, 0, 0), (12, .bipush 11, 2, 5, 0, 0, 0, 0, 11), (14, .istore_n 3, 1, 3, 3, 0, 0, 0, 0), (15, .iconst 0, 1, 5, 0, 0, 0, 0, 0), (16, .istore 4, 2, 3, 4, 0, 0, 0, 0), (18, .iload 4, 2, 1, 4, 0, 0, 0, 0), (20, .iconst 3, 1, 5, 0, 0, 0, 0, 3), (21, .if_icmp .ge 30, 3, 18, 3, 29, 0, 0, 0), (24, .aload_n 0, 1, 2, 0, 0, 0, 0, 0), (25, .iload_n 1, 1, 1, 1, 0, 0, 0, 0), (26, .iload 4, 2, 1, 4, 0, 0, 0, 0), (28, .invokestatic 47, 3, 40, 1, 0, 0, 1399, 0), (31, .istore 5, 2, 3, 5, 0, 0, 0, 0), (33, .iload 5, 2, 1, 5, 0, 0, 0, 0), (35, .iload_n 3, 1, 1, 3, 0, 0, 0, 0), (36, .if_icmp .ge 9, 3, 18, 3, 27, 0, 0, 0), (39, .iload 5, 2, 1, 5, 0, 0, 0, 0), (41, .istore_n 3, 1, 3, 3, 0, 0, 0, 0), (42, .iload 4, 2, 1, 4, 0, 0, 0, 0), (44, .istore_n 2, 1, 3, 2, 0, 0, 0, 0), (45, .iinc 4 1, 3, 6, 4, 0, 0, 0, 1), (48, .goto (-30), 3, 20, 0, 12, 0, 0, 0), (51, .iload_n 2, 1, 1, 2, 0, 0, 0, 0), (52, .ireturn, 1, 47, 0, 0, 0, 0, 0)]
def cl_Td_bestQuestion : List (Mr × Nat × Nat) := [(m_JI_bitCount, 1, 0), (m_Td_greatestPart, 3, 0)]
def ct_Td_bestQuestion : List (Nat × List Nat) := [(12, [5])]
def sw_Td_bestQuestion : List (List Nat) := []
set_option maxRecDepth 100000 in
theorem tk_Td_bestQuestion : TOK m_Td_bestQuestion cl_Td_bestQuestion sw_Td_bestQuestion tb_Td_bestQuestion := ⟨tokB_ok (by decide +kernel), List.forall_mem_cons.mpr ⟨⟨k_JI_bitCount, by decide⟩, List.forall_mem_cons.mpr ⟨⟨k_Td_greatestPart, by decide⟩, fun _ h => nomatch h⟩⟩⟩
def tb_Td_tellsSizes : List Ent := [(0, .aload_n 0, 1, 2, 0, 0, 0, 0, 0), (1, .invokestatic 15, 3, 40, 0, 0, 0, 1365, 0), (4, .ifCond .ne 5, 3, 17, 1, 5, 0, 0, 0), (7, .iconst 0, 1, 5, 0, 0, 0, 0, 0), (8, .ireturn, 1, 47, 0, 0, 1, 0, 0), (9, .iconst 0, 1, 5, 0, 0, 0, 0, 0), (10, .istore_n 1, 1, 3, 1, 0, 0, 0, 0), (11, .iload_n 1, 1, 1, 1, 0, 0, 0, 0), (12, .aload_n 0, 1, 2, 0, 0, 0, 0, 0), (13, .getfield 19, 3, 22, 5, 2, 0, 181, 0), (16, .if_icmp .ge 41, 3, 18, 3, 32, 0, 0, 0), (19, .aload_n 0, 1, 2, 0, 0, 0, 0, 0), (20, .iload_n 1, 1, 1, 1, 0, 0, 0, 0), (21, .invokevirtual 25, 3, 40, 1, 0, 6, 1368, 0), (24, .iconst 1, 1, 5, 0, 0, 0, 0, 1), (25, .if_icmp .lt 24, 3, 18, 2, 28, 0, 0, 0), (28, .aload_n 0, 1, 2, 0, 0, 0, 0, 0), (29, .iload_n 1, 1, 1, 1, 0, 0, 0, 0), (30, .invokevirtual 25, 3, 40, 1, 0, 6, 1368, 0), (33, .bipush 12, 2, 5, 0, 0, 0, 0, 12), (35, .if_icmp .gt 14, 3, 18, 4, 28, 0, 0, 0), (38, .aload_n 0, 1, 2, 0, 0, 0, 0, 0), (39, .iload_n 1, 1, 1, 1, 0, 0, 0, 0), (40, .iconst 1, 1, 5, 0, 0, 0, 0, 1), (41, .iadd, 1, 7, 0, 0, 0, 0, 0), (42, .invokevirtual 25, 3, 40, 1, 0, 6, 1368, 0), (45, .iconst 1, 1, 5, 0, 0, 0, 0, 1), (46, .if_icmp .le 5, 3, 18, 5, 30, 0, 0, 0), (49, .iconst 0, 1, 5, 0, 0, 0, 0, 0), (50, .ireturn, 1, 47, 0, 0, 1, 0, 0), (51, .iinc 1 2, 3, 6, 1, 0, 0, 0, 2), (54, .goto (-43), 3, 20, 0, 7, 0, 0, 0), (57, .iconst 1, 1, 5, 0, 0, 0, 0, 1), (58, .ireturn, 1, 47, 0, 0, 1, 0, 0)]
def cl_Td_tellsSizes : List (Mr × Nat × Nat) := [(m_Td_hasRows, 1, 0), (m_Ta_at, 1, 1)]
def ct_Td_tellsSizes : List (Nat × List Nat) := [(7, [])]
def sw_Td_tellsSizes : List (List Nat) := []
set_option maxRecDepth 100000 in
theorem tk_Td_tellsSizes : TOK m_Td_tellsSizes cl_Td_tellsSizes sw_Td_tellsSizes tb_Td_tellsSizes := ⟨tokB_ok (by decide +kernel), List.forall_mem_cons.mpr ⟨⟨k_Td_hasRows, by decide⟩, List.forall_mem_cons.mpr ⟨⟨k_Ta_at, by decide⟩, fun _ h => nomatch h⟩⟩⟩
def tb_Td_wrongOfStrength : List Ent := [(0, .iconst 0, 1, 5, 0, 0, 0, 0, 0), (1, .istore_n 2, 1, 3, 2, 0, 0, 0, 0), (2, .iconst 0, 1, 5, 0, 0, 0, 0, 0), (3, .istore_n 3, 1, 3, 3, 0, 0, 0, 0), (4, .iload_n 3, 1, 1, 3, 0, 0, 0, 0), (5, .aload_n 0, 1, 2, 0, 0, 0, 0, 0), (6, .getfield 19, 3, 22, 5, 2, 0, 181, 0), (9, .if_icmp .ge 49, 3, 18, 3, 32, 0, 0, 0), (12, .aload_n 0, 1, 2, 0, 0, 0, 0, 0), (13, .iload_n 3, 1, 1, 3, 0, 0, 0, 0), (14, .invokevirtual 25, 3, 40, 0, 0, 6, 1368, 0), (17, .iload_n 1, 1, 1, 1, 0, 0, 0, 0), (18, .if_icmp .gt 7, 3, 18, 4, 15, 0, 0, 0), (21, .iconst 1, 1, 5, 0, 0, 0, 0, 1), (22, .goto 4, 3, 20, 0, 16, 0, 0, 0), (25, .iconst 0, 1, 5, 0, 0, 0, 0, 0), (26, .istore 4, 2, 3, 4, 0, 0, 0, 0), (28, .iload 4, 2, 1, 4, 0, 0, 0, 0), (30, .aload_n 0, 1, 2, 0, 0, 0, 0, 0), (31, .iload_n 3, 1, 1, 3, 0, 0, 0, 0), (32, .iconst 1, 1, 5, 0, 0, 0, 0, 1), (33, .iadd, 1, 7, 0, 0, 0, 0, 0), (34, .invokevirtual 25, 3, 40, 0, 0, 6, 1368, 0), (37, .iconst 1, 1, 5, 0, 0, 0, 0, 1), (38, .if_icmp .ne 7, 3, 18, 1, 27, 0, 0, 0), (41, .iconst 1, 1, 5, 0, 0, 0, 0, 1), (42, .goto 4, 3, 20, 0, 28, 0, 0, 0), (45, .iconst 0, 1, 5, 0, 0, 0, 0, 0), (46, .if_icmp .eq 6, 3, 18, 0, 30, 0, 0, 0), (49, .iinc 2 1, 3, 6, 2, 0, 0, 0, 1), (52, .iinc 3 2, 3, 6, 3, 0, 0, 0, 2), (55, .goto (-51), 3, 20, 0, 4, 0, 0, 0), (58, .iload_n 2, 1, 1, 2, 0, 0, 0, 0), (59, .ireturn, 1, 47, 0, 0, 0, 0, 0)]
def cl_Td_wrongOfStrength : List (Mr × Nat × Nat) := [(m_Ta_at, 1, 1)]
def ct_Td_wrongOfStrength : List (Nat × List Nat) := [(4, [4])]
def sw_Td_wrongOfStrength : List (List Nat) := []
set_option maxRecDepth 100000 in
theorem tk_Td_wrongOfStrength : TOK m_Td_wrongOfStrength cl_Td_wrongOfStrength sw_Td_wrongOfStrength tb_Td_wrongOfStrength := ⟨tokB_ok (by decide +kernel), List.forall_mem_cons.mpr ⟨⟨k_Ta_at, by decide⟩, fun _ h => nomatch h⟩⟩
def tb_Td_leastStrength : List Ent := [(0, .iconst (-1), 1, 5, 0, 0, 0, 0, (-1)), (1, .istore_n 1, 1, 3, 1, 0, 0, 0, 0), (2, .iconst 2, 1, 5, 0, 0, 0, 0, 2), (3, .istore_n 2, 1, 3, 2, 0, 0, 0, 0), (4, .iconst 0, 1, 5, 0, 0, 0, 0, 0), (5, .istore_n 3, 1, 3, 3, 0, 0, 0, 0), (6, .iload_n 3, 1, 1, 3, 0, 0, 0, 0), (7, .bipush 12, 2, 5, 0, 0, 0, 0, 12), (9, .if_icmp .gt 27, 3, 18, 4, 22, 0, 0, 0), (12, .aload_n 0, 1, 2, 0, 0, 0, 0, 0), (13, .iload_n 3, 1, 1, 3, 0, 0, 0, 0), (14, .invokestatic 66, 3, 40, 0, 0, 0, 1416, 0), (17, .istore 4, 2, 3, 4, 0, 0, 0, 0), (19, .iload 4, 2, 1, 4, 0, 0, 0, 0), (21, .iload_n 2, 1, 1, 2, 0, 0, 0, 0), (22, .if_icmp .ge 8, 3, 18, 3, 20, 0, 0, 0), (25, .iload 4, 2, 1, 4, 0, 0, 0, 0), (27, .istore_n 2, 1, 3, 2, 0, 0, 0, 0), (28, .iload_n 3, 1, 1, 3, 0, 0, 0, 0), (29, .istore_n 1, 1, 3, 1, 0, 0, 0, 0), (30, .iinc 3 1, 3, 6, 3, 0, 0, 0, 1), (33, .goto (-27), 3, 20, 0, 6, 0, 0, 0), (36, .iload_n 1, 1, 1, 1, 0, 0, 0, 0), (37, .ireturn, 1, 47, 0, 0, 0, 0, 0)]
def cl_Td_leastStrength : List (Mr × Nat × Nat) := [(m_Td_wrongOfStrength, 2, 0)]
def ct_Td_leastStrength : List (Nat × List Nat) := [(6, [4])]
def sw_Td_leastStrength : List (List Nat) := []
set_option maxRecDepth 100000 in
theorem tk_Td_leastStrength : TOK m_Td_leastStrength cl_Td_leastStrength sw_Td_leastStrength tb_Td_leastStrength := ⟨tokB_ok (by decide +kernel), List.forall_mem_cons.mpr ⟨⟨k_Td_wrongOfStrength, by decide⟩, fun _ h => nomatch h⟩⟩
def tb_Td_fittingStrengths : List Ent := [(0, .iconst 0, 1, 5, 0, 0, 0, 0, 0), (1, .istore_n 1, 1, 3, 1, 0, 0, 0, 0), (2, .iconst 0, 1, 5, 0, 0, 0, 0, 0), (3, .istore_n 2, 1, 3, 2, 0, 0, 0, 0), (4, .iload_n 2, 1, 1, 2, 0, 0, 0, 0), (5, .bipush 12, 2, 5, 0, 0, 0, 0, 12), (7, .if_icmp .gt 24, 3, 18, 4, 20, 0, 0, 0), (10, .aload_n 0, 1, 2, 0, 0, 0, 0, 0), (11, .iload_n 2, 1, 1, 2, 0, 0, 0, 0), (12, .invokestatic 66, 3, 40, 0, 0, 0, 1416, 0), (15, .iconst 1, 1, 5, 0, 0, 0, 0, 1), (16, .if_icmp .gt 9, 3, 18, 4, 18, 0, 0, 0), (19, .iload_n 1, 1, 1, 1, 0, 0, 0, 0), (20, .iconst 1, 1, 5, 0, 0, 0, 0, 1), (21, .iload_n 2, 1, 1, 2, 0, 0, 0, 0), (22, .ishl, 1, 7, 6, 0, 0, 0, 0), (23, .ior, 1, 7, 4, 0, 0, 0, 0), (24, .istore_n 1, 1, 3, 1, 0, 0, 0, 0), (25, .iinc 2 1, 3, 6, 2, 0, 0, 0, 1), (28, .goto (-24), 3, 20, 0, 4, 0, 0, 0), (31, .iload_n 1, 1, 1, 1, 0, 0, 0, 0), (32, .ireturn, 1, 47, 0, 0, 0, 0, 0)]
def cl_Td_fittingStrengths : List (Mr × Nat × Nat) := [(m_Td_wrongOfStrength, 2, 0)]
def ct_Td_fittingStrengths : List (Nat × List Nat) := [(4, [])]
def sw_Td_fittingStrengths : List (List Nat) := []
set_option maxRecDepth 100000 in
theorem tk_Td_fittingStrengths : TOK m_Td_fittingStrengths cl_Td_fittingStrengths sw_Td_fittingStrengths tb_Td_fittingStrengths := ⟨tokB_ok (by decide +kernel), List.forall_mem_cons.mpr ⟨⟨k_Td_wrongOfStrength, by decide⟩, fun _ h => nomatch h⟩⟩
def tb_Td_bestSize : List Ent := [(0, .iload_n 0, 1, 1, 0, 0, 0, 0, 0), (1, .invokestatic 42, 3, 40, 0, 0, 0, 1398, 0), (4, .istore_n 1, 1, 3, 1, 0, 0, 0, 0), (5, .iload_n 1, 1, 1, 1, 0, 0, 0, 0), (6, .iconst 2, 1, 5, 0, 0, 0, 0, 2), (7, .if_icmp .ge 5, 3, 18, 3, 8, 0, 0, 0), (10, .iconst (-1), 1, 5, 0, 0, 0, 0, (-1)), (11, .ireturn, 1, 47, 0, 0, 0, 0, 0), (12, .iconst (-1), 1, 5, 0, 0, 0, 0, (-1)), (13, .istore_n 2, 1, 3, 2, 0, 0, 0, 0), (14, .bipush 14, 2, 5, 0, 0, 0, 0, 14), (16, .istore_n 3, 1, 3, 3, 0, 0, 0, 0), (17, .iconst 1, 1, 5, 0, 0, 0, 0, 1), (18, .istore 4, 2, 3, 4, 0, 0, 0, 0), (20, .iload 4, 2, 1, 4, 0, 0, 0, 0), (22, .bipush 12, 2, 5, 0, 0, 0, 0, 12), (24, .if_icmp .gt 41, 3, 18, 4, 37, 0, 0, 0), (27, .iload_n 0, 1, 1, 0, 0, 0, 0, 0), (28, .iload 4, 2, 1, 4, 0, 0, 0, 0), (30, .ishr, 1, 7, 7, 0, 0, 0, 0), (31, .invokestatic 42, 3, 40, 0, 0, 0, 1398, 0), (34, .istore 5, 2, 3, 5, 0, 0, 0, 0), (36, .iload 5, 2, 1, 5, 0, 0, 0, 0), (38, .iload_n 1, 1, 1, 1, 0, 0, 0, 0), (39, .iload 5, 2, 1, 5, 0, 0, 0, 0), (41, .isub, 1, 7, 1, 0, 0, 0, 0), (42, .invokestatic 54, 3, 54, 0, 0, 0, 1402, 0), (45, .istore 6, 2, 3, 6, 0, 0, 0, 0), (47, .iload 6, 2, 1, 6, 0, 0, 0, 0), (49, .iload_n 3, 1, 1, 3, 0, 0, 0, 0), (50, .if_icmp .ge 9, 3, 18, 3, 35, 0, 0, 0), (53, .iload 6, 2, 1, 6, 0, 0, 0, 0), (55, .istore_n 3, 1, 3, 3, 0, 0, 0, 0), (56, .iload 4, 2, 1, 4, 0, 0, 0, 0), (58, .istore_n 2, 1, 3, 2, 0, 0, 0, 0), (59, .iinc 4 1, 3, 6, 4, 0, 0, 0, 1), (62, .goto (-42), 3, 20, 0, 14, 0, 0, 0), (65, .iload_n 2, 1, 1, 2, 0, 0, 0, 0), (66, .ireturn, 1, 47, 0, 0, 0, 0, 0)]
def cl_Td_bestSize : List (Mr × Nat × Nat) := [(m_JI_bitCount, 1, 0)]
def ct_Td_bestSize : List (Nat × List Nat) := [(14, [5, 6])]
def sw_Td_bestSize : List (List Nat) := []
set_option maxRecDepth 100000 in
theorem tk_Td_bestSize : TOK m_Td_bestSize cl_Td_bestSize sw_Td_bestSize tb_Td_bestSize := ⟨tokB_ok (by decide +kernel), List.forall_mem_cons.mpr ⟨⟨k_JI_bitCount, by decide⟩, fun _ h => nomatch h⟩⟩
def tb_Td_tellsFingers : List Ent := [(0, .aload_n 0, 1, 2, 0, 0, 0, 0, 0), (1, .getfield 19, 3, 22, 5, 2, 0, 181, 0), (4, .bipush 6, 2, 5, 0, 0, 0, 0, 6), (6, .if_icmp .le 5, 3, 18, 5, 6, 0, 0, 0), (9, .iconst 0, 1, 5, 0, 0, 0, 0, 0), (10, .ireturn, 1, 47, 0, 0, 1, 0, 0), (11, .iconst 0, 1, 5, 0, 0, 0, 0, 0), (12, .istore_n 1, 1, 3, 1, 0, 0, 0, 0), (13, .iload_n 1, 1, 1, 1, 0, 0, 0, 0), (14, .aload_n 0, 1, 2, 0, 0, 0, 0, 0), (15, .getfield 19, 3, 22, 5, 2, 0, 181, 0), (18, .if_icmp .ge 30, 3, 18, 3, 26, 0, 0, 0), (21, .aload_n 0, 1, 2, 0, 0, 0, 0, 0), (22, .iload_n 1, 1, 1, 1, 0, 0, 0, 0), (23, .invokevirtual 25, 3, 40, 0, 0, 6, 1368, 0), (26, .iconst 1, 1, 5, 0, 0, 0, 0, 1), (27, .if_icmp .lt 13, 3, 18, 2, 22, 0, 0, 0), (30, .aload_n 0, 1, 2, 0, 0, 0, 0, 0), (31, .iload_n 1, 1, 1, 1, 0, 0, 0, 0), (32, .invokevirtual 25, 3, 40, 0, 0, 6, 1368, 0), (35, .bipush 9, 2, 5, 0, 0, 0, 0, 9), (37, .if_icmp .le 5, 3, 18, 5, 24, 0, 0, 0), (40, .iconst 0, 1, 5, 0, 0, 0, 0, 0), (41, .ireturn, 1, 47, 0, 0, 1, 0, 0), (42, .iinc 1 1, 3, 6, 1, 0, 0, 0, 1), (45, .goto (-32), 3, 20, 0, 8, 0, 0, 0), (48, .iconst 1, 1, 5, 0, 0, 0, 0, 1), (49, .ireturn, 1, 47, 0, 0, 1, 0, 0)]
def cl_Td_tellsFingers : List (Mr × Nat × Nat) := [(m_Ta_at, 1, 1)]
def ct_Td_tellsFingers : List (Nat × List Nat) := [(8, [])]
def sw_Td_tellsFingers : List (List Nat) := []
set_option maxRecDepth 100000 in
theorem tk_Td_tellsFingers : TOK m_Td_tellsFingers cl_Td_tellsFingers sw_Td_tellsFingers tb_Td_tellsFingers := ⟨tokB_ok (by decide +kernel), List.forall_mem_cons.mpr ⟨⟨k_Ta_at, by decide⟩, fun _ h => nomatch h⟩⟩
def tb_Td_winningOpening : List Ent := [(0, .iconst (-1), 1, 5, 0, 0, 0, 0, (-1)), (1, .istore_n 3, 1, 3, 3, 0, 0, 0, 0), (2, .iconst 0, 1, 5, 0, 0, 0, 0, 0), (3, .istore 4, 2, 3, 4, 0, 0, 0, 0), (5, .iload 4, 2, 1, 4, 0, 0, 0, 0), (7, .iload_n 2, 1, 1, 2, 0, 0, 0, 0), (8, .if_icmp .gt 115, 3, 18, 4, 64, 0, 0, 0), (11, .iload 4, 2, 1, 4, 0, 0, 0, 0), (13, .aload_n 0, 1, 2, 0, 0, 0, 0, 0), (14, .getfield 9, 3, 23, 6, 0, 0, 197, 0), (17, .arraylength, 1, 33, 102, 0, 0, 0, 0), (18, .if_icmp .ge 105, 3, 18, 3, 64, 0, 0, 0), (21, .iconst (-1), 1, 5, 0, 0, 0, 0, (-1)), (22, .istore_n 3, 1, 3, 3, 0, 0, 0, 0), (23, .iconst 0, 1, 5, 0, 0, 0, 0, 0), (24, .istore 5, 2, 3, 5, 0, 0, 0, 0), (26, .iload 5, 2, 1, 5, 0, 0, 0, 0), (28, .aload_n 1, 1, 2, 1, 0, 0, 0, 0), (29, .getfield 19, 3, 22, 5, 2, 0, 181, 0), (32, .if_icmp .ge 68, 3, 18, 3, 52, 0, 0, 0), (35, .aload_n 1, 1, 2, 1, 0, 0, 0, 0), (36, .iload 5, 2, 1, 5, 0, 0, 0, 0), (38, .invokevirtual 25, 3, 40, 0, 0, 6, 1368, 0), (41, .istore 6, 2, 3, 6, 0, 0, 0, 0), (43, .iload 6, 2, 1, 6, 0, 0, 0, 0), (45, .ifCond .le 27, 3, 17, 5, 38, 0, 0, 0), (48, .iload 6, 2, 1, 6, 0, 0, 0, 0), (50, .iload 4, 2, 1, 4, 0, 0, 0, 0), (52, .if_icmp .gt 20, 3, 18, 4, 38, 0, 0, 0), (55, .aload_n 0, 1, 2, 0, 0, 0, 0, 0), (56, .getfield 9, 3, 23, 6, 0, 0, 197, 0), (59, .iload 4, 2, 1, 4, 0, 0, 0, 0), (61, .iload 6, 2, 1, 6, 0, 0, 0, 0), (63, .isub, 1, 7, 1, 0, 0, 0, 0), (64, .baload, 1, 25, 102, 0, 0, 0, 0), (65, .ifCond .ne 7, 3, 17, 1, 38, 0, 0, 0), (68, .iconst 1, 1, 5, 0, 0, 0, 0, 1), (69, .goto 4, 3, 20, 0, 39, 0, 0, 0), (72, .iconst 0, 1, 5, 0, 0, 0, 0, 0), (73, .istore 7, 2, 3, 7, 0, 0, 0, 0), (75, .iload 7, 2, 1, 7, 0, 0, 0, 0), (77, .ifCond .eq 17, 3, 17, 0, 50, 0, 0, 0), (80, .iload_n 3, 1, 1, 3, 0, 0, 0, 0), (81, .iconst (-1), 1, 5, 0, 0, 0, 0, (-1)), (82, .if_icmp .eq 9, 3, 18, 0, 48, 0, 0, 0), (85, .iload 6, 2, 1, 6, 0, 0, 0, 0), (87, .iload_n 3, 1, 1, 3, 0, 0, 0, 0), (88, .if_icmp .ge 6, 3, 18, 3, 50, 0, 0, 0), (91, .iload 6, 2, 1, 6, 0, 0, 0, 0), (93, .istore_n 3, 1, 3, 3, 0, 0, 0, 0), (94, .iinc 5 1, 3, 6, 5, 0, 0, 0, 1), (97, .goto (-71), 3, 20, 0, 16, 0, 0, 0), (100, .aload_n 0, 1, 2, 0, 0, 0, 0, 0), (101, .getfield 9, 3, 23, 6, 0, 0, 197, 0), (104, .iload 4, 2, 1, 4, 0, 0, 0, 0), (106, .iload_n 3, 1, 1, 3, 0, 0, 0, 0), (107, .iconst (-1), 1, 5, 0, 0, 0, 0, (-1)), (108, .if_icmp .eq 7, 3, 18, 0, 60, 0, 0, 0), (111, .iconst 1, 1, 5, 0, 0, 0, 0, 1), (112, .goto 4, 3, 20, 0, 61, 0, 0, 0), (115, .iconst 0, 1, 5, 0, 0, 0, 0, 0), (116, .bastore, 1, 29, 0, 0, 0, 0, 0), (117, .iinc 4 1, 3, 6, 4, 0, 0, 0, 1), (120, .goto (-115), 3, 20, 0, 4, 0, 0, 0), (123, .iload_n 3, 1, 1, 3, 0, 0, 0, 0), (124, .ireturn, 1, 47, 0, 0, 0, 0, 0)]
def cl_Td_winningOpening : List (Mr × Nat × Nat) := [(m_Ta_at, 1, 1)]
def ct_Td_winningOpening : List (Nat × List Nat) := [(4, [5, 6, 7]), (16, [6, 7])]
def sw_Td_winningOpening : List (List Nat) := []
set_option maxRecDepth 100000 in
theorem tk_Td_winningOpening : TOK m_Td_winningOpening cl_Td_winningOpening sw_Td_winningOpening tb_Td_winningOpening := ⟨tokB_ok (by decide +kernel), List.forall_mem_cons.mpr ⟨⟨k_Ta_at, by decide⟩, fun _ h => nomatch h⟩⟩
def tb_Es_heirHas : List Ent := [(0, .iload_n 0, 1, 1, 0, 0, 0, 0, 0), (1, .tableswitch 35 0 2 #[27, 29, 32], 27, 21, 0, 9, 0, 0, 0), (28, .iload_n 1, 1, 1, 1, 0, 0, 0, 0), (29, .ireturn, 1, 47, 0, 0, 0, 0, 0), (30, .bipush (-2), 2, 5, 0, 0, 0, 0, (-2)), (32, .ireturn, 1, 47, 0, 0, 0, 0, 0), (33, .iload_n 2, 1, 1, 2, 0, 0, 0, 0), (34, .ineg, 1, 10, 0, 0, 0, 0, 0), (35, .ireturn, 1, 47, 0, 0, 0, 0, 0), (36, .iconst 1, 1, 5, 0, 0, 0, 0, 1), (37, .ireturn, 1, 47, 0, 0, 0, 0, 0)]
def cl_Es_heirHas : List (Mr × Nat × Nat) := []
def ct_Es_heirHas : List (Nat × List Nat) := []
def sw_Es_heirHas : List (List Nat) := [[2, 4, 6]]
set_option maxRecDepth 100000 in
theorem tk_Es_heirHas : TOK m_Es_heirHas cl_Es_heirHas sw_Es_heirHas tb_Es_heirHas := ⟨tokB_ok (by decide +kernel), fun _ h => nomatch h⟩
def tb_Es_nurseHas : List Ent := [(0, .iload_n 0, 1, 1, 0, 0, 0, 0, 0), (1, .tableswitch 33 0 2 #[27, 29, 31], 27, 21, 0, 8, 0, 0, 0), (28, .iconst 1, 1, 5, 0, 0, 0, 0, 1), (29, .ireturn, 1, 47, 0, 0, 0, 0, 0), (30, .iconst 2, 1, 5, 0, 0, 0, 0, 2), (31, .ireturn, 1, 47, 0, 0, 0, 0, 0), (32, .iconst 0, 1, 5, 0, 0, 0, 0, 0), (33, .ireturn, 1, 47, 0, 0, 0, 0, 0), (34, .iload_n 1, 1, 1, 1, 0, 0, 0, 0), (35, .iconst 5, 1, 5, 0, 0, 0, 0, 5), (36, .isub, 1, 7, 1, 0, 0, 0, 0), (37, .ireturn, 1, 47, 0, 0, 0, 0, 0)]
def cl_Es_nurseHas : List (Mr × Nat × Nat) := []
def ct_Es_nurseHas : List (Nat × List Nat) := []
def sw_Es_nurseHas : List (List Nat) := [[2, 4, 6]]
set_option maxRecDepth 100000 in
theorem tk_Es_nurseHas : TOK m_Es_nurseHas cl_Es_nurseHas sw_Es_nurseHas tb_Es_nurseHas := ⟨tokB_ok (by decide +kernel), fun _ h => nomatch h⟩
def tb_Es_restingChoices : List Ent := [(0, .aload_n 0, 1, 2, 0, 0, 0, 0, 0), (1, .iload_n 1, 1, 1, 1, 0, 0, 0, 0), (2, .invokestatic 35, 3, 40, 0, 0, 0, 1089, 0), (5, .bipush 10, 2, 5, 0, 0, 0, 0, 10), (7, .idiv, 1, 8, 0, 0, 0, 0, 0), (8, .istore_n 2, 1, 3, 2, 0, 0, 0, 0), (9, .aload_n 0, 1, 2, 0, 0, 0, 0, 0), (10, .iload_n 1, 1, 1, 1, 0, 0, 0, 0), (11, .invokestatic 89, 3, 40, 1, 0, 0, 1493, 0), (14, .bipush 10, 2, 5, 0, 0, 0, 0, 10), (16, .idiv, 1, 8, 0, 0, 0, 0, 0), (17, .istore_n 3, 1, 3, 3, 0, 0, 0, 0), (18, .aload_n 0, 1, 2, 0, 0, 0, 0, 0), (19, .getfield 92, 3, 23, 7, 2, 0, 349, 0), (22, .iload_n 1, 1, 1, 1, 0, 0, 0, 0), (23, .iaload, 1, 25, 101, 0, 0, 0, 0), (24, .istore 4, 2, 3, 4, 0, 0, 0, 0), (26, .iconst 0, 1, 5, 0, 0, 0, 0, 0), (27, .istore 5, 2, 3, 5, 0, 0, 0, 0), (29, .iconst 0, 1, 5, 0, 0, 0, 0, 0), (30, .istore 6, 2, 3, 6, 0, 0, 0, 0), (32, .iload 6, 2, 1, 6, 0, 0, 0, 0), (34, .iconst 4, 1, 5, 0, 0, 0, 0, 4), (35, .if_icmp .ge 68, 3, 18, 3, 58, 0, 0, 0), (38, .iload 6, 2, 1, 6, 0, 0, 0, 0), (40, .iload_n 2, 1, 1, 2, 0, 0, 0, 0), (41, .iload_n 3, 1, 1, 3, 0, 0, 0, 0), (42, .invokestatic 95, 3, 40, 2, 0, 0, 1494, 0), (45, .iload 6, 2, 1, 6, 0, 0, 0, 0), (47, .iconst 2, 1, 5, 0, 0, 0, 0, 2), (48, .ixor, 1, 7, 5, 0, 0, 0, 0), (49, .iload_n 2, 1, 1, 2, 0, 0, 0, 0), (50, .iload_n 3, 1, 1, 3, 0, 0, 0, 0), (51, .invokestatic 95, 3, 40, 2, 0, 0, 1494, 0), (54, .if_icmp .lt 7, 3, 18, 2, 37, 0, 0, 0), (57, .iconst 1, 1, 5, 0, 0, 0, 0, 1), (58, .goto 4, 3, 20, 0, 38, 0, 0, 0), (61, .iconst 0, 1, 5, 0, 0, 0, 0, 0), (62, .istore 7, 2, 3, 7, 0, 0, 0, 0), (64, .iload 7, 2, 1, 7, 0, 0, 0, 0), (66, .ifCond .eq 31, 3, 17, 0, 56, 0, 0, 0), (69, .iload 6, 2, 1, 6, 0, 0, 0, 0), (71, .iload 4, 2, 1, 4, 0, 0, 0, 0), (73, .invokestatic 99, 3, 40, 3, 0, 0, 1497, 0), (76, .iload 6, 2, 1, 6, 0, 0, 0, 0), (78, .iconst 1, 1, 5, 0, 0, 0, 0, 1), (79, .ixor, 1, 7, 5, 0, 0, 0, 0), (80, .iload 4, 2, 1, 4, 0, 0, 0, 0), (82, .invokestatic 99, 3, 40, 3, 0, 0, 1497, 0), (85, .if_icmp .lt 12, 3, 18, 2, 56, 0, 0, 0), (88, .iload 5, 2, 1, 5, 0, 0, 0, 0), (90, .iconst 1, 1, 5, 0, 0, 0, 0, 1), (91, .iload 6, 2, 1, 6, 0, 0, 0, 0), (93, .ishl, 1, 7, 6, 0, 0, 0, 0), (94, .ior, 1, 7, 4, 0, 0, 0, 0), (95, .istore 5, 2, 3, 5, 0, 0, 0, 0), (97, .iinc 6 1, 3, 6, 6, 0, 0, 0, 1), (100, .goto (-68), 3, 20, 0, 21, 0, 0, 0), (103, .iload 5, 2, 1, 5, 0, 0, 0, 0), (105, .ireturn, 1, 47, 0, 0, 0, 0, 0)]
def cl_Es_restingChoices : List (Mr × Nat × Nat) := [(m_Es_estate, 2, 0), (m_Es_lost, 2, 0), (m_Es_heirHas, 3, 0), (m_Es_nurseHas, 2, 0)]
def ct_Es_restingChoices : List (Nat × List Nat) := [(21, [0, 1, 7])]
def sw_Es_restingChoices : List (List Nat) := []
set_option maxRecDepth 100000 in
theorem tk_Es_restingChoices : TOK m_Es_restingChoices cl_Es_restingChoices sw_Es_restingChoices tb_Es_restingChoices := ⟨tokB_ok (by decide +kernel), List.forall_mem_cons.mpr ⟨⟨k_Es_estate, by decide⟩, List.forall_mem_cons.mpr ⟨⟨k_Es_lost, by decide⟩, List.forall_mem_cons.mpr ⟨⟨k_Es_heirHas, by decide⟩, List.forall_mem_cons.mpr ⟨⟨k_Es_nurseHas, by decide⟩, fun _ h => nomatch h⟩⟩⟩⟩⟩
def tb_Es_oddsThatAllWake : List Ent := [(0, .sipush 10000, 3, 5, 0, 0, 0, 0, 10000), (3, .istore_n 2, 1, 3, 2, 0, 0, 0, 0), (4, .iconst 0, 1, 5, 0, 0, 0, 0, 0), (5, .istore_n 3, 1, 3, 3, 0, 0, 0, 0), (6, .iload_n 3, 1, 1, 3, 0, 0, 0, 0), (7, .iload_n 1, 1, 1, 1, 0, 0, 0, 0), (8, .if_icmp .ge 51, 3, 18, 3, 31, 0, 0, 0), (11, .iconst 0, 1, 5, 0, 0, 0, 0, 0), (12, .istore 4, 2, 3, 4, 0, 0, 0, 0), (14, .iload 4, 2, 1, 4, 0, 0, 0, 0), (16, .aload_n 0, 1, 2, 0, 0, 0, 0, 0), (17, .getfield 44, 3, 22, 7, 0, 0, 339, 0), (20, .if_icmp .ge 33, 3, 18, 3, 29, 0, 0, 0), (23, .aload_n 0, 1, 2, 0, 0, 0, 0, 0), (24, .iload 4, 2, 1, 4, 0, 0, 0, 0), (26, .invokevirtual 19, 3, 40, 0, 0, 8, 540, 0), (29, .ifCond .eq 18, 3, 17, 0, 27, 0, 0, 0), (32, .iload_n 2, 1, 1, 2, 0, 0, 0, 0), (33, .bipush 100, 2, 5, 0, 0, 0, 0, 100), (35, .aload_n 0, 1, 2, 0, 0, 0, 0, 0), (36, .iload 4, 2, 1, 4, 0, 0, 0, 0), (38, .invokevirtual 102, 3, 40, 1, 0, 8, 1510, 0), (41, .isub, 1, 7, 1, 0, 0, 0, 0), (42, .imul, 1, 7, 2, 0, 0, 0, 0), (43, .bipush 100, 2, 5, 0, 0, 0, 0, 100), (45, .idiv, 1, 8, 0, 0, 0, 0, 0), (46, .istore_n 2, 1, 3, 2, 0, 0, 0, 0), (47, .iinc 4 1, 3, 6, 4, 0, 0, 0, 1), (50, .goto (-36), 3, 20, 0, 9, 0, 0, 0), (53, .iinc 3 1, 3, 6, 3, 0, 0, 0, 1), (56, .goto (-50), 3, 20, 0, 4, 0, 0, 0), (59, .iload_n 2, 1, 1, 2, 0, 0, 0, 0), (60, .ireturn, 1, 47, 0, 0, 0, 0, 0)]
def cl_Es_oddsThatAllWake : List (Mr × Nat × Nat) := [(m_Va_isLiving, 1, 1), (m_Va_fails, 1, 1)]
def ct_Es_oddsThatAllWake : List (Nat × List Nat) := [(4, [4]), (9, [])]
def sw_Es_oddsThatAllWake : List (List Nat) := []
set_option maxRecDepth 100000 in
theorem tk_Es_oddsThatAllWake : TOK m_Es_oddsThatAllWake cl_Es_oddsThatAllWake sw_Es_oddsThatAllWake tb_Es_oddsThatAllWake := ⟨tokB_ok (by decide +kernel), List.forall_mem_cons.mpr ⟨⟨k_Va_isLiving, by decide⟩, List.forall_mem_cons.mpr ⟨⟨k_Va_fails, by decide⟩, fun _ h => nomatch h⟩⟩⟩
def tb_Es_standing : List Ent := [(0, .iload_n 2, 1, 1, 2, 0, 0, 0, 0), (1, .ifCond .ne 10, 3, 17, 1, 7, 0, 0, 0), (4, .aload_n 0, 1, 2, 0, 0, 0, 0, 0), (5, .getfield 109, 3, 23, 7, 1, 0, 345, 0), (8, .iload_n 1, 1, 1, 1, 0, 0, 0, 0), (9, .iaload, 1, 25, 101, 0, 0, 0, 0), (10, .ireturn, 1, 47, 0, 0, 0, 0, 0), (11, .iload_n 2, 1, 1, 2, 0, 0, 0, 0), (12, .iconst 1, 1, 5, 0, 0, 0, 0, 1), (13, .if_icmp .ne 11, 3, 18, 1, 14, 0, 0, 0), (16, .aload_n 0, 1, 2, 0, 0, 0, 0, 0), (17, .iload_n 1, 1, 1, 1, 0, 0, 0, 0), (18, .invokevirtual 66, 3, 40, 0, 0, 8, 1097, 0), (21, .goto 12, 3, 20, 0, 19, 0, 0, 0), (24, .aload_n 0, 1, 2, 0, 0, 0, 0, 0), (25, .aload_n 0, 1, 2, 0, 0, 0, 0, 0), (26, .iload_n 1, 1, 1, 1, 0, 0, 0, 0), (27, .invokevirtual 29, 3, 40, 1, 0, 8, 1087, 0), (30, .invokevirtual 32, 3, 40, 2, 0, 8, 1088, 0), (33, .ireturn, 1, 47, 0, 0, 0, 0, 0)]
def cl_Es_standing : List (Mr × Nat × Nat) := [(m_Va_grips, 1, 1), (m_Va_ownedBy, 1, 1), (m_Va_worthOf, 1, 1)]
def ct_Es_standing : List (Nat × List Nat) := []
def sw_Es_standing : List (List Nat) := []
set_option maxRecDepth 100000 in
theorem tk_Es_standing : TOK m_Es_standing cl_Es_standing sw_Es_standing tb_Es_standing := ⟨tokB_ok (by decide +kernel), List.forall_mem_cons.mpr ⟨⟨k_Va_grips, by decide⟩, List.forall_mem_cons.mpr ⟨⟨k_Va_ownedBy, by decide⟩, List.forall_mem_cons.mpr ⟨⟨k_Va_worthOf, by decide⟩, fun _ h => nomatch h⟩⟩⟩⟩
def tb_Es_foremost : List Ent := [(0, .iconst (-1), 1, 5, 0, 0, 0, 0, (-1)), (1, .istore_n 2, 1, 3, 2, 0, 0, 0, 0), (2, .iconst (-1), 1, 5, 0, 0, 0, 0, (-1)), (3, .istore_n 3, 1, 3, 3, 0, 0, 0, 0), (4, .iconst 0, 1, 5, 0, 0, 0, 0, 0), (5, .istore 4, 2, 3, 4, 0, 0, 0, 0), (7, .iload 4, 2, 1, 4, 0, 0, 0, 0), (9, .aload_n 0, 1, 2, 0, 0, 0, 0, 0), (10, .getfield 44, 3, 22, 7, 0, 0, 339, 0), (13, .if_icmp .ge 40, 3, 18, 3, 29, 0, 0, 0), (16, .aload_n 0, 1, 2, 0, 0, 0, 0, 0), (17, .iload 4, 2, 1, 4, 0, 0, 0, 0), (19, .invokevirtual 19, 3, 40, 0, 0, 8, 540, 0), (22, .ifCond .eq 25, 3, 17, 0, 27, 0, 0, 0), (25, .aload_n 0, 1, 2, 0, 0, 0, 0, 0), (26, .iload 4, 2, 1, 4, 0, 0, 0, 0), (28, .iload_n 1, 1, 1, 1, 0, 0, 0, 0), (29, .invokestatic 105, 3, 40, 1, 0, 0, 1521, 0), (32, .iload_n 3, 1, 1, 3, 0, 0, 0, 0), (33, .if_icmp .le 14, 3, 18, 5, 27, 0, 0, 0), (36, .aload_n 0, 1, 2, 0, 0, 0, 0, 0), (37, .iload 4, 2, 1, 4, 0, 0, 0, 0), (39, .iload_n 1, 1, 1, 1, 0, 0, 0, 0), (40, .invokestatic 105, 3, 40, 1, 0, 0, 1521, 0), (43, .istore_n 3, 1, 3, 3, 0, 0, 0, 0), (44, .iload 4, 2, 1, 4, 0, 0, 0, 0), (46, .istore_n 2, 1, 3, 2, 0, 0, 0, 0), (47, .iinc 4 1, 3, 6, 4, 0, 0, 0, 1), (50, .goto (-43), 3, 20, 0, 6, 0, 0, 0), (53, .iload_n 2, 1, 1, 2, 0, 0, 0, 0), (54, .ireturn, 1, 47, 0, 0, 0, 0, 0)]
def cl_Es_foremost : List (Mr × Nat × Nat) := [(m_Va_isLiving, 1, 1), (m_Es_standing, 3, 0)]
def ct_Es_foremost : List (Nat × List Nat) := [(6, [])]
def sw_Es_foremost : List (List Nat) := []
set_option maxRecDepth 100000 in
theorem tk_Es_foremost : TOK m_Es_foremost cl_Es_foremost sw_Es_foremost tb_Es_foremost := ⟨tokB_ok (by decide +kernel), List.forall_mem_cons.mpr ⟨⟨k_Va_isLiving, by decide⟩, List.forall_mem_cons.mpr ⟨⟨k_Es_standing, by decide⟩, fun _ h => nomatch h⟩⟩⟩
def tb_Lo_read : List Ent := [(0, .iload_n 1, 1, 1, 1, 0, 0, 0, 0), (1, .ifCond .lt 20, 3, 17, 2, 11, 0, 0, 0), (4, .iload_n 1, 1, 1, 1, 0, 0, 0, 0), (5, .aload_n 0, 1, 2, 0, 0, 0, 0, 0), (6, .getfield 19, 3, 22, 2, 2, 0, 329, 0), (9, .if_icmp .ge 12, 3, 18, 3, 11, 0, 0, 0), (12, .iload_n 2, 1, 1, 2, 0, 0, 0, 0), (13, .ifCond .lt 8, 3, 17, 2, 11, 0, 0, 0), (16, .iload_n 2, 1, 1, 2, 0, 0, 0, 0), (17, .iconst 5, 1, 5, 0, 0, 0, 0, 5), (18, .if_icmp .lt 6, 3, 18, 2, 13, 0, 0, 0), (21, .bipush (-2), 2, 5, 0, 0, 0, 0, (-2)), (23, .ireturn, 1, 47, 0, 0, 0, 0, 0), (24, .aload_n 0, 1, 2, 0, 0, 0, 0, 0), (25, .getfield 11, 3, 23, 2, 0, 0, 327, 0), (28, .aload_n 0, 1, 2, 0, 0, 0, 0, 0), (29, .getfield 15, 3, 22, 2, 1, 0, 328, 0), (32, .iconst 1, 1, 5, 0, 0, 0, 0, 1), (33, .isub, 1, 7, 1, 0, 0, 0, 0), (34, .iload_n 1, 1, 1, 1, 0, 0, 0, 0), (35, .isub, 1, 7, 1, 0, 0, 0, 0), (36, .bipush 60, 2, 5, 0, 0, 0, 0, 60), (38, .iadd, 1, 7, 0, 0, 0, 0, 0), (39, .bipush 60, 2, 5, 0, 0, 0, 0, 60), (41, .irem, 1, 9, 0, 0, 0, 0, 0), (42, .iconst 5, 1, 5, 0, 0, 0, 0, 5), (43, .imul, 1, 7, 2, 0, 0, 0, 0), (44, .iload_n 2, 1, 1, 2, 0, 0, 0, 0), (45, .iadd, 1, 7, 0, 0, 0, 0, 0), (46, .iaload, 1, 25, 101, 0, 0, 0, 0), (47, .ireturn, 1, 47, 0, 0, 0, 0, 0)]
def cl_Lo_read : List (Mr × Nat × Nat) := []
def ct_Lo_read : List (Nat × List Nat) := []
def sw_Lo_read : List (List Nat) := []
set_option maxRecDepth 100000 in
theorem tk_Lo_read : TOK m_Lo_read cl_Lo_read sw_Lo_read tb_Lo_read := ⟨tokB_ok (by decide +kernel), fun _ h => nomatch h⟩
def tb_Lo_latestNightOf : List Ent := [(0, .iconst 0, 1, 5, 0, 0, 0, 0, 0), (1, .istore_n 2, 1, 3, 2, 0, 0, 0, 0), (2, .iload_n 2, 1, 1, 2, 0, 0, 0, 0), (3, .aload_n 0, 1, 2, 0, 0, 0, 0, 0), (4, .getfield 19, 3, 22, 2, 2, 0, 329, 0), (7, .if_icmp .ge 26, 3, 18, 3, 19, 0, 0, 0), (10, .aload_n 0, 1, 2, 0, 0, 0, 0, 0), (11, .iload_n 2, 1, 1, 2, 0, 0, 0, 0), (12, .iconst 1, 1, 5, 0, 0, 0, 0, 1), (13, .invokevirtual 34, 3, 40, 0, 0, 3, 1560, 0), (16, .iload_n 1, 1, 1, 1, 0, 0, 0, 0), (17, .if_icmp .ne 10, 3, 18, 1, 17, 0, 0, 0), (20, .aload_n 0, 1, 2, 0, 0, 0, 0, 0), (21, .iload_n 2, 1, 1, 2, 0, 0, 0, 0), (22, .iconst 0, 1, 5, 0, 0, 0, 0, 0), (23, .invokevirtual 34, 3, 40, 0, 0, 3, 1560, 0), (26, .ireturn, 1, 47, 0, 0, 0, 0, 0), (27, .iinc 2 1, 3, 6, 2, 0, 0, 0, 1), (30, .goto (-28), 3, 20, 0, 2, 0, 0, 0), (33, .iconst (-1), 1, 5, 0, 0, 0, 0, (-1)), (34, .ireturn, 1, 47, 0, 0, 0, 0, 0)]
def cl_Lo_latestNightOf : List (Mr × Nat × Nat) := [(m_Lo_read, 2, 1)]
def ct_Lo_latestNightOf : List (Nat × List Nat) := [(2, [])]
def sw_Lo_latestNightOf : List (List Nat) := []
set_option maxRecDepth 100000 in
theorem tk_Lo_latestNightOf : TOK m_Lo_latestNightOf cl_Lo_latestNightOf sw_Lo_latestNightOf tb_Lo_latestNightOf := ⟨tokB_ok (by decide +kernel), List.forall_mem_cons.mpr ⟨⟨k_Lo_read, by decide⟩, fun _ h => nomatch h⟩⟩
def tb_Lo_rowsOf : List Ent := [(0, .iconst 0, 1, 5, 0, 0, 0, 0, 0), (1, .istore_n 2, 1, 3, 2, 0, 0, 0, 0), (2, .iconst 0, 1, 5, 0, 0, 0, 0, 0), (3, .istore_n 3, 1, 3, 3, 0, 0, 0, 0), (4, .iload_n 3, 1, 1, 3, 0, 0, 0, 0), (5, .aload_n 0, 1, 2, 0, 0, 0, 0, 0), (6, .getfield 19, 3, 22, 2, 2, 0, 329, 0), (9, .if_icmp .ge 22, 3, 18, 3, 17, 0, 0, 0), (12, .aload_n 0, 1, 2, 0, 0, 0, 0, 0), (13, .iload_n 3, 1, 1, 3, 0, 0, 0, 0), (14, .iconst 1, 1, 5, 0, 0, 0, 0, 1), (15, .invokevirtual 34, 3, 40, 0, 0, 3, 1560, 0), (18, .iload_n 1, 1, 1, 1, 0, 0, 0, 0), (19, .if_icmp .ne 6, 3, 18, 1, 15, 0, 0, 0), (22, .iinc 2 1, 3, 6, 2, 0, 0, 0, 1), (25, .iinc 3 1, 3, 6, 3, 0, 0, 0, 1), (28, .goto (-24), 3, 20, 0, 4, 0, 0, 0), (31, .iload_n 2, 1, 1, 2, 0, 0, 0, 0), (32, .ireturn, 1, 47, 0, 0, 0, 0, 0)]
def cl_Lo_rowsOf : List (Mr × Nat × Nat) := [(m_Lo_read, 2, 1)]
def ct_Lo_rowsOf : List (Nat × List Nat) := [(4, [])]
def sw_Lo_rowsOf : List (List Nat) := []
set_option maxRecDepth 100000 in
theorem tk_Lo_rowsOf : TOK m_Lo_rowsOf cl_Lo_rowsOf sw_Lo_rowsOf tb_Lo_rowsOf := ⟨tokB_ok (by decide +kernel), List.forall_mem_cons.mpr ⟨⟨k_Lo_read, by decide⟩, fun _ h => nomatch h⟩⟩
def tb_JI_numberOfTrailingZeros : List Ent := [(0, .iload_n 0, 1, 1, 0, 0, 0, 0, 0), (1, .iconst (-1), 1, 5, 0, 0, 0, 0, (-1)), (2, .ixor, 1, 7, 5, 0, 0, 0, 0), (3, .iload_n 0, 1, 1, 0, 0, 0, 0, 0), (4, .iconst 1, 1, 5, 0, 0, 0, 0, 1), (5, .isub, 1, 7, 1, 0, 0, 0, 0), (6, .iand, 1, 7, 3, 0, 0, 0, 0), (7, .istore_n 0, 1, 3, 0, 0, 0, 0, 0), (8, .iload_n 0, 1, 1, 0, 0, 0, 0, 0), (9, .ifCond .gt 8, 3, 17, 4, 14, 0, 0, 0), (12, .iload_n 0, 1, 1, 0, 0, 0, 0, 0), (13, .bipush 32, 2, 5, 0, 0, 0, 0, 32), (15, .iand, 1, 7, 3, 0, 0, 0, 0), (16, .ireturn, 1, 47, 0, 0, 0, 0, 0), (17, .iconst 1, 1, 5, 0, 0, 0, 0, 1), (18, .istore_n 1, 1, 3, 1, 0, 0, 0, 0), (19, .iload_n 0, 1, 1, 0, 0, 0, 0, 0), (20, .ldc_w 264, 3, 5, 0, 264, 0, 2033, 65536), (23, .if_icmp .le 11, 3, 18, 5, 24, 0, 0, 0), (26, .iinc 1 16, 3, 6, 1, 0, 0, 0, 16), (29, .iload_n 0, 1, 1, 0, 0, 0, 0, 0), (30, .bipush 16, 2, 5, 0, 0, 0, 0, 16), (32, .iushr, 1, 7, 8, 0, 0, 0, 0), (33, .istore_n 0, 1, 3, 0, 0, 0, 0, 0), (34, .iload_n 0, 1, 1, 0, 0, 0, 0, 0), (35, .sipush 256, 3, 5, 0, 0, 0, 0, 256), (38, .if_icmp .le 11, 3, 18, 5, 32, 0, 0, 0), (41, .iinc 1 8, 3, 6, 1, 0, 0, 0, 8), (44, .iload_n 0, 1, 1, 0, 0, 0, 0, 0), (45, .bipush 8, 2, 5, 0, 0, 0, 0, 8), (47, .iushr, 1, 7, 8, 0, 0, 0, 0), (48, .istore_n 0, 1, 3, 0, 0, 0, 0, 0), (49, .iload_n 0, 1, 1, 0, 0, 0, 0, 0), (50, .bipush 16, 2, 5, 0, 0, 0, 0, 16), (52, .if_icmp .le 10, 3, 18, 5, 40, 0, 0, 0), (55, .iinc 1 4, 3, 6, 1, 0, 0, 0, 4), (58, .iload_n 0, 1, 1, 0, 0, 0, 0, 0), (59, .iconst 4, 1, 5, 0, 0, 0, 0, 4), (60, .iushr, 1, 7, 8, 0, 0, 0, 0), (61, .istore_n 0, 1, 3, 0, 0, 0, 0, 0), (62, .iload_n 0, 1, 1, 0, 0, 0, 0, 0), (63, .iconst 4, 1, 5, 0, 0, 0, 0, 4), (64, .if_icmp .le 10, 3, 18, 5, 48, 0, 0, 0), (67, .iinc 1 2, 3, 6, 1, 0, 0, 0, 2), (70, .iload_n 0, 1, 1, 0, 0, 0, 0, 0), (71, .iconst 2, 1, 5, 0, 0, 0, 0, 2), (72, .iushr, 1, 7, 8, 0, 0, 0, 0), (73, .istore_n 0, 1, 3, 0, 0, 0, 0, 0), (74, .iload_n 1, 1, 1, 1, 0, 0, 0, 0), (75, .iload_n 0, 1, 1, 0, 0, 0, 0, 0), (76, .iconst 1, 1, 5, 0, 0, 0, 0, 1), (77, .iushr, 1, 7, 8, 0, 0, 0, 0), (78, .iadd, 1, 7, 0, 0, 0, 0, 0), (79, .ireturn, 1, 47, 0, 0, 0, 0, 0)]
def cl_JI_numberOfTrailingZeros : List (Mr × Nat × Nat) := []
def ct_JI_numberOfTrailingZeros : List (Nat × List Nat) := []
def sw_JI_numberOfTrailingZeros : List (List Nat) := []
set_option maxRecDepth 100000 in
theorem tk_JI_numberOfTrailingZeros : TOK m_JI_numberOfTrailingZeros cl_JI_numberOfTrailingZeros sw_JI_numberOfTrailingZeros tb_JI_numberOfTrailingZeros := ⟨tokB_ok (by decide +kernel), fun _ h => nomatch h⟩
end
section
set_option maxRecDepth 100000 in
theorem e_Ta_init_0 {G : Gx} (hl : G.1.stackTraces = false) (h : Hp) (P : Res → Hp → Prop) (l0 : Nat) (H : Ev G m_Ta_init 4 [.ref l0] [] h 0 0 P) : Ev G m_Ta_init 0 [.ref l0] [] h 0 0 P := wp_sound hl (tk_Ta_init) (n := 15) (i := 0) (ct := ct_Ta_init) rfl H
set_option maxRecDepth 100000 in
theorem e_Ta_init_4 {G : Gx} (hl : G.1.stackTraces = false) (h : Hp) (P : Res → Hp → Prop) (l0 : Nat) (cs ss : Nat) (H : (¬ (400 : Int32) < 0 ∧ (400 : Int32) ≤ 65536) ∧ (cs + 1 ≤ 1 ∧ ss + (Int32.toNatClampNeg (400 : Int32)) ≤ 400) ∧ fW G (hnew h (101, (Int32.toNatClampNeg (400 : Int32))) (fun _ => defaultValue (aty 0))) 6 l0 ∧ Ev G m_Ta_init 13 [.ref l0] [] (hset (hnew h (101, (Int32.toNatClampNeg (400 : Int32))) (fun _ => defaultValue (aty 0))) l0 0 (.ref h.2.2)) (cs + 1) (ss + (Int32.toNatClampNeg (400 : Int32))) P) : Ev G m_Ta_init 4 [.ref l0] [] h cs ss P := wp_sound hl (tk_Ta_init) (n := 15) (i := 2) (ct := ct_Ta_init) rfl H
set_option maxRecDepth 100000 in
theorem e_Ta_init_13 {G : Gx} (hl : G.1.stackTraces = false) (h : Hp) (P : Res → Hp → Prop) (l0 : Nat) (cs ss : Nat) (H : fW G h 6 l0 ∧ Ev G m_Ta_init 18 [.ref l0] [] (hset h l0 1 (.int (0 : Int32))) cs ss P) : Ev G m_Ta_init 13 [.ref l0] [] h cs ss P := wp_sound hl (tk_Ta_init) (n := 15) (i := 6) (ct := ct_Ta_init) rfl H
set_option maxRecDepth 100000 in
theorem e_Ta_init_18 {G : Gx} (hl : G.1.stackTraces = false) (h : Hp) (P : Res → Hp → Prop) (l0 : Nat) (cs ss : Nat) (H : fW G h 6 l0 ∧ P (.inl none) (hset h l0 2 (.int (0 : Int32)))) : Ev G m_Ta_init 18 [.ref l0] [] h cs ss P := wp_sound hl (tk_Ta_init) (n := 15) (i := 9) (ct := ct_Ta_init) rfl H
theorem en_Ta_init {G : Gx} (h : Hp) (P : Res → Hp → Prop) (l0 : Nat) (k : Ev G m_Ta_init 0 [.ref l0] [] h 0 0 P) : EvM G m_Ta_init [.ref l0] h P := EvM.of (by decide) (by simp [Value.category]) (Nat.le_of_ble_eq_true rfl) (k)
set_option maxRecDepth 100000 in
theorem e_Lo_init_0 {G : Gx} (hl : G.1.stackTraces = false) (h : Hp) (P : Res → Hp → Prop) (l0 : Nat) (H : Ev G m_Lo_init 4 [.ref l0] [] h 0 0 P) : Ev G m_Lo_init 0 [.ref l0] [] h 0 0 P := wp_sound hl (tk_Lo_init) (n := 15) (i := 0) (ct := ct_Lo_init) rfl H
set_option maxRecDepth 100000 in
theorem e_Lo_init_4 {G : Gx} (hl : G.1.stackTraces = false) (h : Hp) (P : Res → Hp → Prop) (l0 : Nat) (cs ss : Nat) (H : (¬ (300 : Int32) < 0 ∧ (300 : Int32) ≤ 65536) ∧ (cs + 1 ≤ 1 ∧ ss + (Int32.toNatClampNeg (300 : Int32)) ≤ 300) ∧ fW G (hnew h (101, (Int32.toNatClampNeg (300 : Int32))) (fun _ => defaultValue (aty 0))) 3 l0 ∧ Ev G m_Lo_init 13 [.ref l0] [] (hset (hnew h (101, (Int32.toNatClampNeg (300 : Int32))) (fun _ => defaultValue (aty 0))) l0 0 (.ref h.2.2)) (cs + 1) (ss + (Int32.toNatClampNeg (300 : Int32))) P) : Ev G m_Lo_init 4 [.ref l0] [] h cs ss P := wp_sound hl (tk_Lo_init) (n := 15) (i := 2) (ct := ct_Lo_init) rfl H
set_option maxRecDepth 100000 in
theorem e_Lo_init_13 {G : Gx} (hl : G.1.stackTraces = false) (h : Hp) (P : Res → Hp → Prop) (l0 : Nat) (cs ss : Nat) (H : fW G h 3 l0 ∧ Ev G m_Lo_init 18 [.ref l0] [] (hset h l0 1 (.int (0 : Int32))) cs ss P) : Ev G m_Lo_init 13 [.ref l0] [] h cs ss P := wp_sound hl (tk_Lo_init) (n := 15) (i := 6) (ct := ct_Lo_init) rfl H
set_option maxRecDepth 100000 in
theorem e_Lo_init_18 {G : Gx} (hl : G.1.stackTraces = false) (h : Hp) (P : Res → Hp → Prop) (l0 : Nat) (cs ss : Nat) (H : fW G h 3 l0 ∧ P (.inl none) (hset h l0 2 (.int (0 : Int32)))) : Ev G m_Lo_init 18 [.ref l0] [] h cs ss P := wp_sound hl (tk_Lo_init) (n := 15) (i := 9) (ct := ct_Lo_init) rfl H
theorem en_Lo_init {G : Gx} (h : Hp) (P : Res → Hp → Prop) (l0 : Nat) (k : Ev G m_Lo_init 0 [.ref l0] [] h 0 0 P) : EvM G m_Lo_init [.ref l0] h P := EvM.of (by decide) (by simp [Value.category]) (Nat.le_of_ble_eq_true rfl) (k)
set_option maxRecDepth 100000 in
theorem e_Ta_hasRoom_0 {G : Gx} (hl : G.1.stackTraces = false) (h : Hp) (P : Res → Hp → Prop) (l0 : Nat) (H : ∃ x1, fI h 6 l0 1 x1 ∧ ((400 : Int32) < (x1 + (20 : Int32)) → P (.inl (some (.int (0 : Int32)))) h) ∧ (¬ (400 : Int32) < (x1 + (20 : Int32)) → P (.inl (some (.int (1 : Int32)))) h)) : Ev G m_Ta_hasRoom 0 [.ref l0] [] h 0 0 P := wp_sound hl (tk_Ta_hasRoom) (n := 12) (i := 0) (ct := ct_Ta_hasRoom) rfl H
theorem en_Ta_hasRoom {G : Gx} (h : Hp) (P : Res → Hp → Prop) (l0 : Nat) (k : Ev G m_Ta_hasRoom 0 [.ref l0] [] h 0 0 P) : EvM G m_Ta_hasRoom [.ref l0] h P := EvM.of (by decide) (by simp [Value.category]) (Nat.le_of_ble_eq_true rfl) (k)
set_option maxRecDepth 100000 in
theorem e_Ta_add_0 {G : Gx} (hl : G.1.stackTraces = false) (h : Hp) (P : Res → Hp → Prop) (l0 : Nat) (l1 : Int32) (H : Ev G m_Ta_add 3 [.ref l0, .int l1, .int (24 : Int32)] [] h 0 0 P) : Ev G m_Ta_add 0 [.ref l0, .int l1, un] [] h 0 0 P := wp_sound hl (tk_Ta_add) (n := 29) (i := 0) (ct := ct_Ta_add) rfl H
set_option maxRecDepth 100000 in
theorem e_Ta_add_3 {G : Gx} (hl : G.1.stackTraces = false) (h : Hp) (P : Res → Hp → Prop) (l0 : Nat) (l1 : Int32) (l2 : Int32) (H : (l2 < 0 → P (.inl none) h) ∧ (¬ l2 < 0 → ∃ x1, fI h 6 l0 1 x1 ∧ ((400 : Int32) ≤ x1 → P (.inl none) h) ∧ (¬ (400 : Int32) ≤ x1 → ∃ y2, fR h 6 l0 0 y2 ∧ ∃ x3, fI h 6 l0 1 x3 ∧ aW G h 101 y2 x3 ∧ ∃ x4, fI (hset h y2 (Int32.toNatClampNeg x3) (.int (((l1.toUInt32 >>> (l2.toUInt32 &&& Int32.toUInt32 31)).toInt32) &&& (255 : Int32)))) 6 l0 1 x4 ∧ fW G (hset h y2 (Int32.toNatClampNeg x3) (.int (((l1.toUInt32 >>> (l2.toUInt32 &&& Int32.toUInt32 31)).toInt32) &&& (255 : Int32)))) 6 l0 ∧ Ev G m_Ta_add 3 [.ref l0, .int l1, .int (l2 + (-8 : Int32))] [] (hset (hset h y2 (Int32.toNatClampNeg x3) (.int (((l1.toUInt32 >>> (l2.toUInt32 &&& Int32.toUInt32 31)).toInt32) &&& (255 : Int32)))) l0 1 (.int (x4 + (1 : Int32)))) 0 0 P))) : Ev G m_Ta_add 3 [.ref l0, .int l1, .int l2] [] h 0 0 P := wp_sound hl (tk_Ta_add) (n := 29) (i := 2) (ct := ct_Ta_add) rfl H
theorem en_Ta_add {G : Gx} (h : Hp) (P : Res → Hp → Prop) (l0 : Nat) (l1 : Int32) (k : Ev G m_Ta_add 0 [.ref l0, .int l1, un] [] h 0 0 P) : EvM G m_Ta_add [.ref l0, .int l1] h P := EvM.of (by decide) (by simp [Value.category]) (Nat.le_of_ble_eq_true rfl) (k)
set_option maxRecDepth 100000 in
theorem e_Ta_cut_0 {G : Gx} (hl : G.1.stackTraces = false) (h : Hp) (P : Res → Hp → Prop) (l0 : Nat) (l1 : Int32) (H : (l1 < 0 → P (.inl (some (.int (0 : Int32)))) h) ∧ (¬ l1 < 0 → ∃ x1, fI h 6 l0 1 x1 ∧ (l1 ≤ x1 → fW G h 6 l0 ∧ P (.inl (some (.int (1 : Int32)))) (hset h l0 1 (.int l1))) ∧ (¬ l1 ≤ x1 → P (.inl (some (.int (0 : Int32)))) h))) : Ev G m_Ta_cut 0 [.ref l0, .int l1] [] h 0 0 P := wp_sound hl (tk_Ta_cut) (n := 15) (i := 0) (ct := ct_Ta_cut) rfl H
theorem en_Ta_cut {G : Gx} (h : Hp) (P : Res → Hp → Prop) (l0 : Nat) (l1 : Int32) (k : Ev G m_Ta_cut 0 [.ref l0, .int l1] [] h 0 0 P) : EvM G m_Ta_cut [.ref l0, .int l1] h P := EvM.of (by decide) (by simp [Value.category]) (Nat.le_of_ble_eq_true rfl) (k)
set_option maxRecDepth 100000 in
theorem e_JI_bitCount_0 {G : Gx} (hl : G.1.stackTraces = false) (h : Hp) (P : Res → Hp → Prop) (l0 : Int32) (H : P (.inl (some (.int ((((((((l0 - (((l0.toUInt32 >>> ((1 : Int32).toUInt32 &&& Int32.toUInt32 31)).toInt32) &&& (1431655765 : Int32))) &&& (858993459 : Int32)) + ((((l0 - (((l0.toUInt32 >>> ((1 : Int32).toUInt32 &&& Int32.toUInt32 31)).toInt32) &&& (1431655765 : Int32))).toUInt32 >>> ((2 : Int32).toUInt32 &&& Int32.toUInt32 31)).toInt32) &&& (858993459 : Int32))) + (((((l0 - (((l0.toUInt32 >>> ((1 : Int32).toUInt32 &&& Int32.toUInt32 31)).toInt32) &&& (1431655765 : Int32))) &&& (858993459 : Int32)) + ((((l0 - (((l0.toUInt32 >>> ((1 : Int32).toUInt32 &&& Int32.toUInt32 31)).toInt32) &&& (1431655765 : Int32))).toUInt32 >>> ((2 : Int32).toUInt32 &&& Int32.toUInt32 31)).toInt32) &&& (858993459 : Int32))).toUInt32 >>> ((4 : Int32).toUInt32 &&& Int32.toUInt32 31)).toInt32)) &&& (252645135 : Int32)) + (((((((l0 - (((l0.toUInt32 >>> ((1 : Int32).toUInt32 &&& Int32.toUInt32 31)).toInt32) &&& (1431655765 : Int32))) &&& (858993459 : Int32)) + ((((l0 - (((l0.toUInt32 >>> ((1 : Int32).toUInt32 &&& Int32.toUInt32 31)).toInt32) &&& (1431655765 : Int32))).toUInt32 >>> ((2 : Int32).toUInt32 &&& Int32.toUInt32 31)).toInt32) &&& (858993459 : Int32))) + (((((l0 - (((l0.toUInt32 >>> ((1 : Int32).toUInt32 &&& Int32.toUInt32 31)).toInt32) &&& (1431655765 : Int32))) &&& (858993459 : Int32)) + ((((l0 - (((l0.toUInt32 >>> ((1 : Int32).toUInt32 &&& Int32.toUInt32 31)).toInt32) &&& (1431655765 : Int32))).toUInt32 >>> ((2 : Int32).toUInt32 &&& Int32.toUInt32 31)).toInt32) &&& (858993459 : Int32))).toUInt32 >>> ((4 : Int32).toUInt32 &&& Int32.toUInt32 31)).toInt32)) &&& (252645135 : Int32)).toUInt32 >>> ((8 : Int32).toUInt32 &&& Int32.toUInt32 31)).toInt32)) + ((((((((l0 - (((l0.toUInt32 >>> ((1 : Int32).toUInt32 &&& Int32.toUInt32 31)).toInt32) &&& (1431655765 : Int32))) &&& (858993459 : Int32)) + ((((l0 - (((l0.toUInt32 >>> ((1 : Int32).toUInt32 &&& Int32.toUInt32 31)).toInt32) &&& (1431655765 : Int32))).toUInt32 >>> ((2 : Int32).toUInt32 &&& Int32.toUInt32 31)).toInt32) &&& (858993459 : Int32))) + (((((l0 - (((l0.toUInt32 >>> ((1 : Int32).toUInt32 &&& Int32.toUInt32 31)).toInt32) &&& (1431655765 : Int32))) &&& (858993459 : Int32)) + ((((l0 - (((l0.toUInt32 >>> ((1 : Int32).toUInt32 &&& Int32.toUInt32 31)).toInt32) &&& (1431655765 : Int32))).toUInt32 >>> ((2 : Int32).toUInt32 &&& Int32.toUInt32 31)).toInt32) &&& (858993459 : Int32))).toUInt32 >>> ((4 : Int32).toUInt32 &&& Int32.toUInt32 31)).toInt32)) &&& (252645135 : Int32)) + (((((((l0 - (((l0.toUInt32 >>> ((1 : Int32).toUInt32 &&& Int32.toUInt32 31)).toInt32) &&& (1431655765 : Int32))) &&& (858993459 : Int32)) + ((((l0 - (((l0.toUInt32 >>> ((1 : Int32).toUInt32 &&& Int32.toUInt32 31)).toInt32) &&& (1431655765 : Int32))).toUInt32 >>> ((2 : Int32).toUInt32 &&& Int32.toUInt32 31)).toInt32) &&& (858993459 : Int32))) + (((((l0 - (((l0.toUInt32 >>> ((1 : Int32).toUInt32 &&& Int32.toUInt32 31)).toInt32) &&& (1431655765 : Int32))) &&& (858993459 : Int32)) + ((((l0 - (((l0.toUInt32 >>> ((1 : Int32).toUInt32 &&& Int32.toUInt32 31)).toInt32) &&& (1431655765 : Int32))).toUInt32 >>> ((2 : Int32).toUInt32 &&& Int32.toUInt32 31)).toInt32) &&& (858993459 : Int32))).toUInt32 >>> ((4 : Int32).toUInt32 &&& Int32.toUInt32 31)).toInt32)) &&& (252645135 : Int32)).toUInt32 >>> ((8 : Int32).toUInt32 &&& Int32.toUInt32 31)).toInt32)).toUInt32 >>> ((16 : Int32).toUInt32 &&& Int32.toUInt32 31)).toInt32)) &&& (63 : Int32))))) h) : Ev G m_JI_bitCount 0 [.int l0] [] h 0 0 P := wp_sound hl (tk_JI_bitCount) (n := 44) (i := 0) (ct := ct_JI_bitCount) rfl H
theorem en_JI_bitCount {G : Gx} (h : Hp) (P : Res → Hp → Prop) (l0 : Int32) (k : Ev G m_JI_bitCount 0 [.int l0] [] h 0 0 P) : EvM G m_JI_bitCount [.int l0] h P := EvM.of (by decide) (by simp [Value.category]) (Nat.le_of_ble_eq_true rfl) (k)
set_option maxRecDepth 100000 in
theorem e_Lo_copyFrom_0 {G : Gx} (hl : G.1.stackTraces = false) (h : Hp) (P : Res → Hp → Prop) (l0 : Nat) (l1 : Nat) (H : ∃ y1, fR h 3 l1 0 y1 ∧ ∃ y2, fR h 3 l0 0 y2 ∧ ∃ y3, fR h 3 l0 0 y3 ∧ ∃ n4, aN h 101 y3 n4 ∧ ((0 : Int32) = 0 ∧ (0 : Int32) = 0) ∧ (∃ n5 n6, (aN h 101 y1 n5 ∧ aN h 101 y2 n6) ∧ ¬ n4.toInt32 < 0 ∧ (Int32.toNatClampNeg n4.toInt32) ≤ n5 ∧ (Int32.toNatClampNeg n4.toInt32) ≤ n6) ∧ G.n0 ≤ y2 ∧ (∀ j7, j7 < (Int32.toNatClampNeg n4.toInt32) → ∃ x, h.2.1 y1 j7 = .int x) ∧ ∃ x8, fI (hcpy h y1 y2 (Int32.toNatClampNeg n4.toInt32)) 3 l1 1 x8 ∧ fW G (hcpy h y1 y2 (Int32.toNatClampNeg n4.toInt32)) 3 l0 ∧ ∃ x9, fI (hset (hcpy h y1 y2 (Int32.toNatClampNeg n4.toInt32)) l0 1 (.int x8)) 3 l1 2 x9 ∧ fW G (hset (hcpy h y1 y2 (Int32.toNatClampNeg n4.toInt32)) l0 1 (.int x8)) 3 l0 ∧ P (.inl none) (hset (hset (hcpy h y1 y2 (Int32.toNatClampNeg n4.toInt32)) l0 1 (.int x8)) l0 2 (.int x9))) : Ev G m_Lo_copyFrom 0 [.ref l0, .ref l1] [] h 0 0 P := wp_sound hl (tk_Lo_copyFrom) (n := 21) (i := 0) (ct := ct_Lo_copyFrom) rfl H
theorem en_Lo_copyFrom {G : Gx} (h : Hp) (P : Res → Hp → Prop) (l0 : Nat) (l1 : Nat) (k : Ev G m_Lo_copyFrom 0 [.ref l0, .ref l1] [] h 0 0 P) : EvM G m_Lo_copyFrom [.ref l0, .ref l1] h P := EvM.of (by decide) (by simp [Value.category]) (Nat.le_of_ble_eq_true rfl) (k)
set_option maxRecDepth 100000 in
theorem e_Ta_useUp_0 {G : Gx} (hl : G.1.stackTraces = false) (h : Hp) (P : Res → Hp → Prop) (l0 : Nat) (H : ∃ x1, fI h 6 l0 1 x1 ∧ fW G h 6 l0 ∧ fW G (hset h l0 2 (.int x1)) 6 l0 ∧ P (.inl none) (hset (hset h l0 2 (.int x1)) l0 1 (.int (0 : Int32)))) : Ev G m_Ta_useUp 0 [.ref l0] [] h 0 0 P := wp_sound hl (tk_Ta_useUp) (n := 10) (i := 0) (ct := ct_Ta_useUp) rfl H
theorem en_Ta_useUp {G : Gx} (h : Hp) (P : Res → Hp → Prop) (l0 : Nat) (k : Ev G m_Ta_useUp 0 [.ref l0] [] h 0 0 P) : EvM G m_Ta_useUp [.ref l0] h P := EvM.of (by decide) (by simp [Value.category]) (Nat.le_of_ble_eq_true rfl) (k)
set_option maxRecDepth 100000 in
theorem e_Ta_at_0 {G : Gx} (hl : G.1.stackTraces = false) (h : Hp) (P : Res → Hp → Prop) (l0 : Nat) (l1 : Int32) (H : (l1 < 0 → P (.inl (some (.int (-1 : Int32)))) h) ∧ (¬ l1 < 0 → ∃ x1, fI h 6 l0 2 x1 ∧ (x1 ≤ l1 → P (.inl (some (.int (-1 : Int32)))) h) ∧ (¬ x1 ≤ l1 → ∃ y2, fR h 6 l0 0 y2 ∧ ∃ x3, aI h 101 y2 l1 x3 ∧ P (.inl (some (.int x3))) h))) : Ev G m_Ta_at 0 [.ref l0, .int l1] [] h 0 0 P := wp_sound hl (tk_Ta_at) (n := 15) (i := 0) (ct := ct_Ta_at) rfl H
theorem en_Ta_at {G : Gx} (h : Hp) (P : Res → Hp → Prop) (l0 : Nat) (l1 : Int32) (k : Ev G m_Ta_at 0 [.ref l0, .int l1] [] h 0 0 P) : EvM G m_Ta_at [.ref l0, .int l1] h P := EvM.of (by decide) (by simp [Value.category]) (Nat.le_of_ble_eq_true rfl) (k)
set_option maxRecDepth 100000 in
theorem e_JS_coder_0 {G : Gx} (hl : G.1.stackTraces = false) (h : Hp) (P : Res → Hp → Prop) (l0 : Nat) (H : ∃ x1, G.st 2 = .int x1 ∧ (x1 = 0 → narrow .byte (.int (1 : Int32)) = .int (1 : Int32) ∧ P (.inl (some (.int (1 : Int32)))) h) ∧ (¬ x1 = 0 → ∃ x2, G.of 3 l0 = .int x2 ∧ narrow .byte (.int x2) = .int x2 ∧ P (.inl (some (.int x2))) h)) : Ev G m_JS_coder 0 [.ref l0] [] h 0 0 P := wp_sound hl (tk_JS_coder) (n := 9) (i := 0) (ct := ct_JS_coder) rfl H
theorem en_JS_coder {G : Gx} (h : Hp) (P : Res → Hp → Prop) (l0 : Nat) (k : Ev G m_JS_coder 0 [.ref l0] [] h 0 0 P) : EvM G m_JS_coder [.ref l0] h P := EvM.of (by decide) (by simp [Value.category]) (Nat.le_of_ble_eq_true rfl) (k)
set_option maxRecDepth 100000 in
theorem e_JS_length_0 {G : Gx} (hl : G.1.stackTraces = false) (h : Hp) (P : Res → Hp → Prop) (l0 : Nat) (H : ∃ y1, G.of 2 l0 = .ref y1 ∧ ∃ n2, aN h 103 y1 n2 ∧ G.oc l0 = 2 ∧ ∃ x3, EvI G m_JS_coder [.ref l0] h x3 ∧ P (.inl (some (.int (n2.toInt32 >>> (x3 &&& 31))))) h) : Ev G m_JS_length 0 [.ref l0] [] h 0 0 P := wp_sound hl (tk_JS_length) (n := 9) (i := 0) (ct := ct_JS_length) rfl H
theorem en_JS_length {G : Gx} (h : Hp) (P : Res → Hp → Prop) (l0 : Nat) (k : Ev G m_JS_length 0 [.ref l0] [] h 0 0 P) : EvM G m_JS_length [.ref l0] h P := EvM.of (by decide) (by simp [Value.category]) (Nat.le_of_ble_eq_true rfl) (k)
set_option maxRecDepth 100000 in
theorem e_JS_isLatin1_0 {G : Gx} (hl : G.1.stackTraces = false) (h : Hp) (P : Res → Hp → Prop) (l0 : Nat) (H : ∃ x1, G.st 2 = .int x1 ∧ (x1 = 0 → P (.inl (some (.int (0 : Int32)))) h) ∧ (¬ x1 = 0 → ∃ x2, G.of 3 l0 = .int x2 ∧ (¬ x2 = 0 → P (.inl (some (.int (0 : Int32)))) h) ∧ (x2 = 0 → P (.inl (some (.int (1 : Int32)))) h))) : Ev G m_JS_isLatin1 0 [.ref l0] [] h 0 0 P := wp_sound hl (tk_JS_isLatin1) (n := 11) (i := 0) (ct := ct_JS_isLatin1) rfl H
theorem en_JS_isLatin1 {G : Gx} (h : Hp) (P : Res → Hp → Prop) (l0 : Nat) (k : Ev G m_JS_isLatin1 0 [.ref l0] [] h 0 0 P) : EvM G m_JS_isLatin1 [.ref l0] h P := EvM.of (by decide) (by simp [Value.category]) (Nat.le_of_ble_eq_true rfl) (k)
set_option maxRecDepth 100000 in
theorem e_JP_checkIndex_0 {G : Gx} (hl : G.1.stackTraces = false) (h : Hp) (P : Res → Hp → Prop) (l0 : Int32) (l1 : Int32) (l2 : Nat) (H : (l0 < 0 → False) ∧ (¬ l0 < 0 → (l0 < l1 → P (.inl (some (.int l0))) h) ∧ (¬ l0 < l1 → False))) : Ev G m_JP_checkIndex 0 [.int l0, .int l1, .ref l2] [] h 0 0 P := wp_sound hl (tk_JP_checkIndex) (n := 14) (i := 0) (ct := ct_JP_checkIndex) rfl H
theorem en_JP_checkIndex {G : Gx} (h : Hp) (P : Res → Hp → Prop) (l0 : Int32) (l1 : Int32) (l2 : Nat) (k : Ev G m_JP_checkIndex 0 [.int l0, .int l1, .ref l2] [] h 0 0 P) : EvM G m_JP_checkIndex [.int l0, .int l1, .ref l2] h P := EvM.of (by decide) (by simp [Value.category]) (Nat.le_of_ble_eq_true rfl) (k)
set_option maxRecDepth 100000 in
theorem e_JS_checkIndex_0 {G : Gx} (hl : G.1.stackTraces = false) (h : Hp) (P : Res → Hp → Prop) (l0 : Int32) (l1 : Int32) (H : ∃ x1, EvI G m_JP_checkIndex [.int l0, .int l1, (G.st 3)] h x1 ∧ P (.inl none) h) : Ev G m_JS_checkIndex 0 [.int l0, .int l1] [] h 0 0 P := wp_sound hl (tk_JS_checkIndex) (n := 8) (i := 0) (ct := ct_JS_checkIndex) rfl H
theorem en_JS_checkIndex {G : Gx} (h : Hp) (P : Res → Hp → Prop) (l0 : Int32) (l1 : Int32) (k : Ev G m_JS_checkIndex 0 [.int l0, .int l1] [] h 0 0 P) : EvM G m_JS_checkIndex [.int l0, .int l1] h P := EvM.of (by decide) (by simp [Value.category]) (Nat.le_of_ble_eq_true rfl) (k)
set_option maxRecDepth 100000 in
theorem e_JL_charAt_0 {G : Gx} (hl : G.1.stackTraces = false) (h : Hp) (P : Res → Hp → Prop) (l0 : Nat) (l1 : Int32) (H : ∃ n1, aN h 103 l0 n1 ∧ ∃ Q3 : Res → Hp → Prop, EvM G m_JS_checkIndex [.int l1, .int n1.toInt32] h Q3 ∧ (∀ (o4 : Res) (h2 : Hp), Q3 o4 h2 → (o4 = .inl none ∧ ∃ x5, aI h2 103 l0 l1 x5 ∧ narrow .char (.int (((x5 &&& (255 : Int32)).toUInt32 % 65536).toInt32)) = .int (((x5 &&& (255 : Int32)).toUInt32 % 65536).toInt32) ∧ P (.inl (some (.int (((x5 &&& (255 : Int32)).toUInt32 % 65536).toInt32)))) h2) ∨ (∃ E, o4 = .inr E ∧ P (.inr E) h2))) : Ev G m_JL_charAt 0 [.ref l0, .int l1] [] h 0 0 P := wp_sound hl (tk_JL_charAt) (n := 13) (i := 0) (ct := ct_JL_charAt) rfl H
theorem en_JL_charAt {G : Gx} (h : Hp) (P : Res → Hp → Prop) (l0 : Nat) (l1 : Int32) (k : Ev G m_JL_charAt 0 [.ref l0, .int l1] [] h 0 0 P) : EvM G m_JL_charAt [.ref l0, .int l1] h P := EvM.of (by decide) (by simp [Value.category]) (Nat.le_of_ble_eq_true rfl) (k)
set_option maxRecDepth 100000 in
theorem e_JS_charAt_0 {G : Gx} (hl : G.1.stackTraces = false) (h : Hp) (P : Res → Hp → Prop) (l0 : Nat) (l1 : Int32) (H : G.oc l0 = 2 ∧ ∃ x1, EvI G m_JS_isLatin1 [.ref l0] h x1 ∧ (x1 = 0 → ∃ y2, G.of 2 l0 = .ref y2 ∧ False) ∧ (¬ x1 = 0 → ∃ y3, G.of 2 l0 = .ref y3 ∧ ∃ Q5 : Res → Hp → Prop, EvM G m_JL_charAt [.ref y3, .int l1] h Q5 ∧ (∀ (o6 : Res) (h4 : Hp), Q5 o6 h4 → (∃ x7, o6 = .inl (some (.int x7)) ∧ narrow .char (.int x7) = .int x7 ∧ P (.inl (some (.int x7))) h4) ∨ (∃ E, o6 = .inr E ∧ P (.inr E) h4)))) : Ev G m_JS_charAt 0 [.ref l0, .int l1] [] h 0 0 P := wp_sound hl (tk_JS_charAt) (n := 15) (i := 0) (ct := ct_JS_charAt) rfl H
theorem en_JS_charAt {G : Gx} (h : Hp) (P : Res → Hp → Prop) (l0 : Nat) (l1 : Int32) (k : Ev G m_JS_charAt 0 [.ref l0, .int l1] [] h 0 0 P) : EvM G m_JS_charAt [.ref l0, .int l1] h P := EvM.of (by decide) (by simp [Value.category]) (Nat.le_of_ble_eq_true rfl) (k)
set_option maxRecDepth 100000 in
theorem e_To_isAt_0 {G : Gx} (hl : G.1.stackTraces = false) (h : Hp) (P : Res → Hp → Prop) (l0 : Nat) (l1 : Nat) (l2 : Int32) (l3 : Int32) (H : ∃ y1, G.of 0 l0 = .ref y1 ∧ G.oc y1 = 2 ∧ ∃ x2, EvI G m_JS_length [.ref y1] h x2 ∧ (x2 = (l3 - l2) → Ev G m_To_isAt 18 [.ref l0, .ref l1, .int l2, un, .int (0 : Int32)] [] h 0 0 P) ∧ (¬ x2 = (l3 - l2) → P (.inl (some (.int (0 : Int32)))) h)) : Ev G m_To_isAt 0 [.ref l0, .ref l1, .int l2, .int l3, un] [] h 0 0 P := wp_sound hl (tk_To_isAt) (n := 34) (i := 0) (ct := ct_To_isAt) rfl H
set_option maxRecDepth 100000 in
theorem e_To_isAt_18 {G : Gx} (hl : G.1.stackTraces = false) (h : Hp) (P : Res → Hp → Prop) (l0 : Nat) (l1 : Nat) (l2 : Int32) (l4 : Int32) (H : ∃ y1, G.of 0 l0 = .ref y1 ∧ G.oc y1 = 2 ∧ ∃ x2, EvI G m_JS_length [.ref y1] h x2 ∧ (x2 ≤ l4 → P (.inl (some (.int (1 : Int32)))) h) ∧ (¬ x2 ≤ l4 → ∃ y3, G.of 0 l0 = .ref y3 ∧ G.oc y3 = 2 ∧ ∃ x4, EvI G m_JS_charAt [.ref y3, .int l4] h x4 ∧ (h.1 l1).1 = 6 ∧ ∃ x5, EvI G m_Ta_at [.ref l1, .int (l2 + l4)] h x5 ∧ (x4 = x5 → Ev G m_To_isAt 18 [.ref l0, .ref l1, .int l2, un, .int (l4 + (1 : Int32))] [] h 0 0 P) ∧ (¬ x4 = x5 → P (.inl (some (.int (0 : Int32)))) h))) : Ev G m_To_isAt 18 [.ref l0, .ref l1, .int l2, un, .int l4] [] h 0 0 P := wp_sound hl (tk_To_isAt) (n := 34) (i := 11) (ct := ct_To_isAt) rfl H
theorem en_To_isAt {G : Gx} (h : Hp) (P : Res → Hp → Prop) (l0 : Nat) (l1 : Nat) (l2 : Int32) (l3 : Int32) (k : Ev G m_To_isAt 0 [.ref l0, .ref l1, .int l2, .int l3, un] [] h 0 0 P) : EvM G m_To_isAt [.ref l0, .ref l1, .int l2, .int l3] h P := EvM.of (by decide) (by simp [Value.category]) (Nat.le_of_ble_eq_true rfl) (k)
set_option maxRecDepth 100000 in
theorem e_To_spelt_0 {G : Gx} (hl : G.1.stackTraces = false) (h : Hp) (P : Res → Hp → Prop) (l0 : Nat) (l1 : Int32) (l2 : Int32) (H : Ev G m_To_spelt 2 [.ref l0, .int l1, .int l2, .int (0 : Int32)] [] h 0 0 P) : Ev G m_To_spelt 0 [.ref l0, .int l1, .int l2, un] [] h 0 0 P := wp_sound hl (tk_To_spelt) (n := 24) (i := 0) (ct := ct_To_spelt) rfl H
set_option maxRecDepth 100000 in
theorem e_To_spelt_2 {G : Gx} (hl : G.1.stackTraces = false) (h : Hp) (P : Res → Hp → Prop) (l0 : Nat) (l1 : Int32) (l2 : Int32) (l3 : Int32) (H : ∃ y1, G.st 1 = .ref y1 ∧ ∃ n2, aN h 105 y1 n2 ∧ (n2.toInt32 ≤ l3 → ∃ y3, G.st 7 = .ref y3 ∧ P (.inl (some (.ref y3))) h) ∧ (¬ n2.toInt32 ≤ l3 → ∃ y4, G.st 1 = .ref y4 ∧ ∃ y5, aR h 105 y4 l3 y5 ∧ G.oc y5 = 1 ∧ ∃ x6, EvI G m_To_isAt [.ref y5, .ref l0, .int l1, .int l2] h x6 ∧ (x6 = 0 → Ev G m_To_spelt 2 [.ref l0, .int l1, .int l2, .int (l3 + (1 : Int32))] [] h 0 0 P) ∧ (¬ x6 = 0 → ∃ y7, G.st 1 = .ref y7 ∧ ∃ y8, aR h 105 y7 l3 y8 ∧ P (.inl (some (.ref y8))) h))) : Ev G m_To_spelt 2 [.ref l0, .int l1, .int l2, .int l3] [] h 0 0 P := wp_sound hl (tk_To_spelt) (n := 24) (i := 2) (ct := ct_To_spelt) rfl H
theorem en_To_spelt {G : Gx} (h : Hp) (P : Res → Hp → Prop) (l0 : Nat) (l1 : Int32) (l2 : Int32) (k : Ev G m_To_spelt 0 [.ref l0, .int l1, .int l2, un] [] h 0 0 P) : EvM G m_To_spelt [.ref l0, .int l1, .int l2] h P := EvM.of (by decide) (by simp [Value.category]) (Nat.le_of_ble_eq_true rfl) (k)
set_option maxRecDepth 100000 in
theorem e_To_isTruth_0 {G : Gx} (hl : G.1.stackTraces = false) (h : Hp) (P : Res → Hp → Prop) (l0 : Nat) (H : ∃ x1, G.of 1 l0 = .int x1 ∧ (x1 < (-13 : Int32) → P (.inl (some (.int (0 : Int32)))) h) ∧ (¬ x1 < (-13 : Int32) → ∃ x2, G.of 1 l0 = .int x2 ∧ ((-11 : Int32) < x2 → P (.inl (some (.int (0 : Int32)))) h) ∧ (¬ (-11 : Int32) < x2 → P (.inl (some (.int (1 : Int32)))) h))) : Ev G m_To_isTruth 0 [.ref l0] [] h 0 0 P := wp_sound hl (tk_To_isTruth) (n := 14) (i := 0) (ct := ct_To_isTruth) rfl H
theorem en_To_isTruth {G : Gx} (h : Hp) (P : Res → Hp → Prop) (l0 : Nat) (k : Ev G m_To_isTruth 0 [.ref l0] [] h 0 0 P) : EvM G m_To_isTruth [.ref l0] h P := EvM.of (by decide) (by simp [Value.category]) (Nat.le_of_ble_eq_true rfl) (k)
set_option maxRecDepth 100000 in
theorem e_To_isPart_0 {G : Gx} (hl : G.1.stackTraces = false) (h : Hp) (P : Res → Hp → Prop) (l0 : Nat) (H : ∃ x1, G.of 1 l0 = .int x1 ∧ (x1 < (-20 : Int32) → P (.inl (some (.int (0 : Int32)))) h) ∧ (¬ x1 < (-20 : Int32) → ∃ x2, G.of 1 l0 = .int x2 ∧ ((-14 : Int32) < x2 → P (.inl (some (.int (0 : Int32)))) h) ∧ (¬ (-14 : Int32) < x2 → P (.inl (some (.int (1 : Int32)))) h))) : Ev G m_To_isPart 0 [.ref l0] [] h 0 0 P := wp_sound hl (tk_To_isPart) (n := 14) (i := 0) (ct := ct_To_isPart) rfl H
theorem en_To_isPart {G : Gx} (h : Hp) (P : Res → Hp → Prop) (l0 : Nat) (k : Ev G m_To_isPart 0 [.ref l0] [] h 0 0 P) : EvM G m_To_isPart [.ref l0] h P := EvM.of (by decide) (by simp [Value.category]) (Nat.le_of_ble_eq_true rfl) (k)
set_option maxRecDepth 100000 in
theorem e_Lo_add_0 {G : Gx} (hl : G.1.stackTraces = false) (h : Hp) (P : Res → Hp → Prop) (l0 : Nat) (l1 : Int32) (l2 : Int32) (l3 : Int32) (l4 : Int32) (l5 : Int32) (H : ∃ x1, fI h 3 l0 1 x1 ∧ ∃ y2, fR h 3 l0 0 y2 ∧ aW G h 101 y2 (x1 * (5 : Int32)) ∧ ∃ y3, fR (hset h y2 (Int32.toNatClampNeg (x1 * (5 : Int32))) (.int l1)) 3 l0 0 y3 ∧ aW G (hset h y2 (Int32.toNatClampNeg (x1 * (5 : Int32))) (.int l1)) 101 y3 ((x1 * (5 : Int32)) + (1 : Int32)) ∧ ∃ y4, fR (hset (hset h y2 (Int32.toNatClampNeg (x1 * (5 : Int32))) (.int l1)) y3 (Int32.toNatClampNeg ((x1 * (5 : Int32)) + (1 : Int32))) (.int l2)) 3 l0 0 y4 ∧ aW G (hset (hset h y2 (Int32.toNatClampNeg (x1 * (5 : Int32))) (.int l1)) y3 (Int32.toNatClampNeg ((x1 * (5 : Int32)) + (1 : Int32))) (.int l2)) 101 y4 ((x1 * (5 : Int32)) + (2 : Int32)) ∧ ∃ y5, fR (hset (hset (hset h y2 (Int32.toNatClampNeg (x1 * (5 : Int32))) (.int l1)) y3 (Int32.toNatClampNeg ((x1 * (5 : Int32)) + (1 : Int32))) (.int l2)) y4 (Int32.toNatClampNeg ((x1 * (5 : Int32)) + (2 : Int32))) (.int l3)) 3 l0 0 y5 ∧ aW G (hset (hset (hset h y2 (Int32.toNatClampNeg (x1 * (5 : Int32))) (.int l1)) y3 (Int32.toNatClampNeg ((x1 * (5 : Int32)) + (1 : Int32))) (.int l2)) y4 (Int32.toNatClampNeg ((x1 * (5 : Int32)) + (2 : Int32))) (.int l3)) 101 y5 ((x1 * (5 : Int32)) + (3 : Int32)) ∧ ∃ y6, fR (hset (hset (hset (hset h y2 (Int32.toNatClampNeg (x1 * (5 : Int32))) (.int l1)) y3 (Int32.toNatClampNeg ((x1 * (5 : Int32)) + (1 : Int32))) (.int l2)) y4 (Int32.toNatClampNeg ((x1 * (5 : Int32)) + (2 : Int32))) (.int l3)) y5 (Int32.toNatClampNeg ((x1 * (5 : Int32)) + (3 : Int32))) (.int l4)) 3 l0 0 y6 ∧ aW G (hset (hset (hset (hset h y2 (Int32.toNatClampNeg (x1 * (5 : Int32))) (.int l1)) y3 (Int32.toNatClampNeg ((x1 * (5 : Int32)) + (1 : Int32))) (.int l2)) y4 (Int32.toNatClampNeg ((x1 * (5 : Int32)) + (2 : Int32))) (.int l3)) y5 (Int32.toNatClampNeg ((x1 * (5 : Int32)) + (3 : Int32))) (.int l4)) 101 y6 ((x1 * (5 : Int32)) + (4 : Int32)) ∧ ∃ x7, fI (hset (hset (hset (hset (hset h y2 (Int32.toNatClampNeg (x1 * (5 : Int32))) (.int l1)) y3 (Int32.toNatClampNeg ((x1 * (5 : Int32)) + (1 : Int32))) (.int l2)) y4 (Int32.toNatClampNeg ((x1 * (5 : Int32)) + (2 : Int32))) (.int l3)) y5 (Int32.toNatClampNeg ((x1 * (5 : Int32)) + (3 : Int32))) (.int l4)) y6 (Int32.toNatClampNeg ((x1 * (5 : Int32)) + (4 : Int32))) (.int l5)) 3 l0 1 x7 ∧ ¬ (60 : Int32) = 0 ∧ fW G (hset (hset (hset (hset (hset h y2 (Int32.toNatClampNeg (x1 * (5 : Int32))) (.int l1)) y3 (Int32.toNatClampNeg ((x1 * (5 : Int32)) + (1 : Int32))) (.int l2)) y4 (Int32.toNatClampNeg ((x1 * (5 : Int32)) + (2 : Int32))) (.int l3)) y5 (Int32.toNatClampNeg ((x1 * (5 : Int32)) + (3 : Int32))) (.int l4)) y6 (Int32.toNatClampNeg ((x1 * (5 : Int32)) + (4 : Int32))) (.int l5)) 3 l0 ∧ ∃ x8, fI (hset (hset (hset (hset (hset (hset h y2 (Int32.toNatClampNeg (x1 * (5 : Int32))) (.int l1)) y3 (Int32.toNatClampNeg ((x1 * (5 : Int32)) + (1 : Int32))) (.int l2)) y4 (Int32.toNatClampNeg ((x1 * (5 : Int32)) + (2 : Int32))) (.int l3)) y5 (Int32.toNatClampNeg ((x1 * (5 : Int32)) + (3 : Int32))) (.int l4)) y6 (Int32.toNatClampNeg ((x1 * (5 : Int32)) + (4 : Int32))) (.int l5)) l0 1 (.int ((x7 + (1 : Int32)) - (x7 + (1 : Int32)) / (60 : Int32) * (60 : Int32)))) 3 l0 2 x8 ∧ fW G (hset (hset (hset (hset (hset (hset h y2 (Int32.toNatClampNeg (x1 * (5 : Int32))) (.int l1)) y3 (Int32.toNatClampNeg ((x1 * (5 : Int32)) + (1 : Int32))) (.int l2)) y4 (Int32.toNatClampNeg ((x1 * (5 : Int32)) + (2 : Int32))) (.int l3)) y5 (Int32.toNatClampNeg ((x1 * (5 : Int32)) + (3 : Int32))) (.int l4)) y6 (Int32.toNatClampNeg ((x1 * (5 : Int32)) + (4 : Int32))) (.int l5)) l0 1 (.int ((x7 + (1 : Int32)) - (x7 + (1 : Int32)) / (60 : Int32) * (60 : Int32)))) 3 l0 ∧ P (.inl none) (hset (hset (hset (hset (hset (hset (hset h y2 (Int32.toNatClampNeg (x1 * (5 : Int32))) (.int l1)) y3 (Int32.toNatClampNeg ((x1 * (5 : Int32)) + (1 : Int32))) (.int l2)) y4 (Int32.toNatClampNeg ((x1 * (5 : Int32)) + (2 : Int32))) (.int l3)) y5 (Int32.toNatClampNeg ((x1 * (5 : Int32)) + (3 : Int32))) (.int l4)) y6 (Int32.toNatClampNeg ((x1 * (5 : Int32)) + (4 : Int32))) (.int l5)) l0 1 (.int ((x7 + (1 : Int32)) - (x7 + (1 : Int32)) / (60 : Int32) * (60 : Int32)))) l0 2 (.int (imin (x8 + (1 : Int32)) (60 : Int32))))) : Ev G m_Lo_add 0 [.ref l0, .int l1, .int l2, .int l3, .int l4, .int l5, un] [] h 0 0 P := wp_sound hl (tk_Lo_add) (n := 57) (i := 0) (ct := ct_Lo_add) rfl H
theorem en_Lo_add {G : Gx} (h : Hp) (P : Res → Hp → Prop) (l0 : Nat) (l1 : Int32) (l2 : Int32) (l3 : Int32) (l4 : Int32) (l5 : Int32) (k : Ev G m_Lo_add 0 [.ref l0, .int l1, .int l2, .int l3, .int l4, .int l5, un] [] h 0 0 P) : EvM G m_Lo_add [.ref l0, .int l1, .int l2, .int l3, .int l4, .int l5] h P := EvM.of (by decide) (by simp [Value.category]) (Nat.le_of_ble_eq_true rfl) (k)
set_option maxRecDepth 100000 in
theorem e_Lo_read_0 {G : Gx} (hl : G.1.stackTraces = false) (h : Hp) (P : Res → Hp → Prop) (l0 : Nat) (l1 : Int32) (l2 : Int32) (H : (l1 < 0 → P (.inl (some (.int (-2 : Int32)))) h) ∧ (¬ l1 < 0 → ∃ x1, fI h 3 l0 2 x1 ∧ (x1 ≤ l1 → P (.inl (some (.int (-2 : Int32)))) h) ∧ (¬ x1 ≤ l1 → (l2 < 0 → P (.inl (some (.int (-2 : Int32)))) h) ∧ (¬ l2 < 0 → (l2 < (5 : Int32) → ∃ y2, fR h 3 l0 0 y2 ∧ ∃ x3, fI h 3 l0 1 x3 ∧ ¬ (60 : Int32) = 0 ∧ ∃ x4, aI h 101 y2 ((((((x3 - (1 : Int32)) - l1) + (60 : Int32)) - (((x3 - (1 : Int32)) - l1) + (60 : Int32)) / (60 : Int32) * (60 : Int32)) * (5 : Int32)) + l2) x4 ∧ P (.inl (some (.int x4))) h) ∧ (¬ l2 < (5 : Int32) → P (.inl (some (.int (-2 : Int32)))) h))))) : Ev G m_Lo_read 0 [.ref l0, .int l1, .int l2] [] h 0 0 P := wp_sound hl (tk_Lo_read) (n := 33) (i := 0) (ct := ct_Lo_read) rfl H
theorem en_Lo_read {G : Gx} (h : Hp) (P : Res → Hp → Prop) (l0 : Nat) (l1 : Int32) (l2 : Int32) (k : Ev G m_Lo_read 0 [.ref l0, .int l1, .int l2] [] h 0 0 P) : EvM G m_Lo_read [.ref l0, .int l1, .int l2] h P := EvM.of (by decide) (by simp [Value.category]) (Nat.le_of_ble_eq_true rfl) (k)
set_option maxRecDepth 100000 in
theorem e_Lo_latestNightOf_0 {G : Gx} (hl : G.1.stackTraces = false) (h : Hp) (P : Res → Hp → Prop) (l0 : Nat) (l1 : Int32) (H : Ev G m_Lo_latestNightOf 2 [.ref l0, .int l1, .int (0 : Int32)] [] h 0 0 P) : Ev G m_Lo_latestNightOf 0 [.ref l0, .int l1, un] [] h 0 0 P := wp_sound hl (tk_Lo_latestNightOf) (n := 23) (i := 0) (ct := ct_Lo_latestNightOf) rfl H
set_option maxRecDepth 100000 in
theorem e_Lo_latestNightOf_2 {G : Gx} (hl : G.1.stackTraces = false) (h : Hp) (P : Res → Hp → Prop) (l0 : Nat) (l1 : Int32) (l2 : Int32) (H : ∃ x1, fI h 3 l0 2 x1 ∧ (x1 ≤ l2 → P (.inl (some (.int (-1 : Int32)))) h) ∧ (¬ x1 ≤ l2 → (h.1 l0).1 = 3 ∧ ∃ x2, EvI G m_Lo_read [.ref l0, .int l2, .int (1 : Int32)] h x2 ∧ (¬ x2 = l1 → Ev G m_Lo_latestNightOf 2 [.ref l0, .int l1, .int (l2 + (1 : Int32))] [] h 0 0 P) ∧ (x2 = l1 → (h.1 l0).1 = 3 ∧ ∃ x3, EvI G m_Lo_read [.ref l0, .int l2, .int (0 : Int32)] h x3 ∧ P (.inl (some (.int x3))) h))) : Ev G m_Lo_latestNightOf 2 [.ref l0, .int l1, .int l2] [] h 0 0 P := wp_sound hl (tk_Lo_latestNightOf) (n := 23) (i := 2) (ct := ct_Lo_latestNightOf) rfl H
theorem en_Lo_latestNightOf {G : Gx} (h : Hp) (P : Res → Hp → Prop) (l0 : Nat) (l1 : Int32) (k : Ev G m_Lo_latestNightOf 0 [.ref l0, .int l1, un] [] h 0 0 P) : EvM G m_Lo_latestNightOf [.ref l0, .int l1] h P := EvM.of (by decide) (by simp [Value.category]) (Nat.le_of_ble_eq_true rfl) (k)
set_option maxRecDepth 100000 in
theorem e_Lo_rowsOf_0 {G : Gx} (hl : G.1.stackTraces = false) (h : Hp) (P : Res → Hp → Prop) (l0 : Nat) (l1 : Int32) (H : Ev G m_Lo_rowsOf 4 [.ref l0, .int l1, .int (0 : Int32), .int (0 : Int32)] [] h 0 0 P) : Ev G m_Lo_rowsOf 0 [.ref l0, .int l1, un, un] [] h 0 0 P := wp_sound hl (tk_Lo_rowsOf) (n := 21) (i := 0) (ct := ct_Lo_rowsOf) rfl H
set_option maxRecDepth 100000 in
theorem e_Lo_rowsOf_4 {G : Gx} (hl : G.1.stackTraces = false) (h : Hp) (P : Res → Hp → Prop) (l0 : Nat) (l1 : Int32) (l2 : Int32) (l3 : Int32) (H : ∃ x1, fI h 3 l0 2 x1 ∧ (x1 ≤ l3 → P (.inl (some (.int l2))) h) ∧ (¬ x1 ≤ l3 → (h.1 l0).1 = 3 ∧ ∃ x2, EvI G m_Lo_read [.ref l0, .int l3, .int (1 : Int32)] h x2 ∧ (¬ x2 = l1 → Ev G m_Lo_rowsOf 4 [.ref l0, .int l1, .int l2, .int (l3 + (1 : Int32))] [] h 0 0 P) ∧ (x2 = l1 → Ev G m_Lo_rowsOf 4 [.ref l0, .int l1, .int (l2 + (1 : Int32)), .int (l3 + (1 : Int32))] [] h 0 0 P))) : Ev G m_Lo_rowsOf 4 [.ref l0, .int l1, .int l2, .int l3] [] h 0 0 P := wp_sound hl (tk_Lo_rowsOf) (n := 21) (i := 4) (ct := ct_Lo_rowsOf) rfl H
theorem en_Lo_rowsOf {G : Gx} (h : Hp) (P : Res → Hp → Prop) (l0 : Nat) (l1 : Int32) (k : Ev G m_Lo_rowsOf 0 [.ref l0, .int l1, un, un] [] h 0 0 P) : EvM G m_Lo_rowsOf [.ref l0, .int l1] h P := EvM.of (by decide) (by simp [Value.category]) (Nat.le_of_ble_eq_true rfl) (k)
set_option maxRecDepth 100000 in
theorem e_JI_numberOfTrailingZeros_0 {G : Gx} (hl : G.1.stackTraces = false) (h : Hp) (P : Res → Hp → Prop) (l0 : Int32) (H : (0 < ((l0 ^^^ (-1 : Int32)) &&& (l0 - (1 : Int32))) → (((l0 ^^^ (-1 : Int32)) &&& (l0 - (1 : Int32))) ≤ (65536 : Int32) → (((l0 ^^^ (-1 : Int32)) &&& (l0 - (1 : Int32))) ≤ (256 : Int32) → (((l0 ^^^ (-1 : Int32)) &&& (l0 - (1 : Int32))) ≤ (16 : Int32) → (((l0 ^^^ (-1 : Int32)) &&& (l0 - (1 : Int32))) ≤ (4 : Int32) → P (.inl (some (.int ((1 : Int32) + ((((l0 ^^^ (-1 : Int32)) &&& (l0 - (1 : Int32))).toUInt32 >>> ((1 : Int32).toUInt32 &&& Int32.toUInt32 31)).toInt32))))) h) ∧ (¬ ((l0 ^^^ (-1 : Int32)) &&& (l0 - (1 : Int32))) ≤ (4 : Int32) → P (.inl (some (.int (((1 : Int32) + (2 : Int32)) + ((((((l0 ^^^ (-1 : Int32)) &&& (l0 - (1 : Int32))).toUInt32 >>> ((2 : Int32).toUInt32 &&& Int32.toUInt32 31)).toInt32).toUInt32 >>> ((1 : Int32).toUInt32 &&& Int32.toUInt32 31)).toInt32))))) h)) ∧ (¬ ((l0 ^^^ (-1 : Int32)) &&& (l0 - (1 : Int32))) ≤ (16 : Int32) → (((((l0 ^^^ (-1 : Int32)) &&& (l0 - (1 : Int32))).toUInt32 >>> ((4 : Int32).toUInt32 &&& Int32.toUInt32 31)).toInt32) ≤ (4 : Int32) → P (.inl (some (.int (((1 : Int32) + (4 : Int32)) + ((((((l0 ^^^ (-1 : Int32)) &&& (l0 - (1 : Int32))).toUInt32 >>> ((4 : Int32).toUInt32 &&& Int32.toUInt32 31)).toInt32).toUInt32 >>> ((1 : Int32).toUInt32 &&& Int32.toUInt32 31)).toInt32))))) h) ∧ (¬ ((((l0 ^^^ (-1 : Int32)) &&& (l0 - (1 : Int32))).toUInt32 >>> ((4 : Int32).toUInt32 &&& Int32.toUInt32 31)).toInt32) ≤ (4 : Int32) → P (.inl (some (.int ((((1 : Int32) + (4 : Int32)) + (2 : Int32)) + ((((((((l0 ^^^ (-1 : Int32)) &&& (l0 - (1 : Int32))).toUInt32 >>> ((4 : Int32).toUInt32 &&& Int32.toUInt32 31)).toInt32).toUInt32 >>> ((2 : Int32).toUInt32 &&& Int32.toUInt32 31)).toInt32).toUInt32 >>> ((1 : Int32).toUInt32 &&& Int32.toUInt32 31)).toInt32))))) h))) ∧ (¬ ((l0 ^^^ (-1 : Int32)) &&& (l0 - (1 : Int32))) ≤ (256 : Int32) → (((((l0 ^^^ (-1 : Int32)) &&& (l0 - (1 : Int32))).toUInt32 >>> ((8 : Int32).toUInt32 &&& Int32.toUInt32 31)).toInt32) ≤ (16 : Int32) → (((((l0 ^^^ (-1 : Int32)) &&& (l0 - (1 : Int32))).toUInt32 >>> ((8 : Int32).toUInt32 &&& Int32.toUInt32 31)).toInt32) ≤ (4 : Int32) → P (.inl (some (.int (((1 : Int32) + (8 : Int32)) + ((((((l0 ^^^ (-1 : Int32)) &&& (l0 - (1 : Int32))).toUInt32 >>> ((8 : Int32).toUInt32 &&& Int32.toUInt32 31)).toInt32).toUInt32 >>> ((1 : Int32).toUInt32 &&& Int32.toUInt32 31)).toInt32))))) h) ∧ (¬ ((((l0 ^^^ (-1 : Int32)) &&& (l0 - (1 : Int32))).toUInt32 >>> ((8 : Int32).toUInt32 &&& Int32.toUInt32 31)).toInt32) ≤ (4 : Int32) → P (.inl (some (.int ((((1 : Int32) + (8 : Int32)) + (2 : Int32)) + ((((((((l0 ^^^ (-1 : Int32)) &&& (l0 - (1 : Int32))).toUInt32 >>> ((8 : Int32).toUInt32 &&& Int32.toUInt32 31)).toInt32).toUInt32 >>> ((2 : Int32).toUInt32 &&& Int32.toUInt32 31)).toInt32).toUInt32 >>> ((1 : Int32).toUInt32 &&& Int32.toUInt32 31)).toInt32))))) h)) ∧ (¬ ((((l0 ^^^ (-1 : Int32)) &&& (l0 - (1 : Int32))).toUInt32 >>> ((8 : Int32).toUInt32 &&& Int32.toUInt32 31)).toInt32) ≤ (16 : Int32) → (((((((l0 ^^^ (-1 : Int32)) &&& (l0 - (1 : Int32))).toUInt32 >>> ((8 : Int32).toUInt32 &&& Int32.toUInt32 31)).toInt32).toUInt32 >>> ((4 : Int32).toUInt32 &&& Int32.toUInt32 31)).toInt32) ≤ (4 : Int32) → P (.inl (some (.int ((((1 : Int32) + (8 : Int32)) + (4 : Int32)) + ((((((((l0 ^^^ (-1 : Int32)) &&& (l0 - (1 : Int32))).toUInt32 >>> ((8 : Int32).toUInt32 &&& Int32.toUInt32 31)).toInt32).toUInt32 >>> ((4 : Int32).toUInt32 &&& Int32.toUInt32 31)).toInt32).toUInt32 >>> ((1 : Int32).toUInt32 &&& Int32.toUInt32 31)).toInt32))))) h) ∧ (¬ ((((((l0 ^^^ (-1 : Int32)) &&& (l0 - (1 : Int32))).toUInt32 >>> ((8 : Int32).toUInt32 &&& Int32.toUInt32 31)).toInt32).toUInt32 >>> ((4 : Int32).toUInt32 &&& Int32.toUInt32 31)).toInt32) ≤ (4 : Int32) → P (.inl (some (.int (((((1 : Int32) + (8 : Int32)) + (4 : Int32)) + (2 : Int32)) + ((((((((((l0 ^^^ (-1 : Int32)) &&& (l0 - (1 : Int32))).toUInt32 >>> ((8 : Int32).toUInt32 &&& Int32.toUInt32 31)).toInt32).toUInt32 >>> ((4 : Int32).toUInt32 &&& Int32.toUInt32 31)).toInt32).toUInt32 >>> ((2 : Int32).toUInt32 &&& Int32.toUInt32 31)).toInt32).toUInt32 >>> ((1 : Int32).toUInt32 &&& Int32.toUInt32 31)).toInt32))))) h)))) ∧ (¬ ((l0 ^^^ (-1 : Int32)) &&& (l0 - (1 : Int32))) ≤ (65536 : Int32) → (((((l0 ^^^ (-1 : Int32)) &&& (l0 - (1 : Int32))).toUInt32 >>> ((16 : Int32).toUInt32 &&& Int32.toUInt32 31)).toInt32) ≤ (256 : Int32) → (((((l0 ^^^ (-1 : Int32)) &&& (l0 - (1 : Int32))).toUInt32 >>> ((16 : Int32).toUInt32 &&& Int32.toUInt32 31)).toInt32) ≤ (16 : Int32) → (((((l0 ^^^ (-1 : Int32)) &&& (l0 - (1 : Int32))).toUInt32 >>> ((16 : Int32).toUInt32 &&& Int32.toUInt32 31)).toInt32) ≤ (4 : Int32) → P (.inl (some (.int (((1 : Int32) + (16 : Int32)) + ((((((l0 ^^^ (-1 : Int32)) &&& (l0 - (1 : Int32))).toUInt32 >>> ((16 : Int32).toUInt32 &&& Int32.toUInt32 31)).toInt32).toUInt32 >>> ((1 : Int32).toUInt32 &&& Int32.toUInt32 31)).toInt32))))) h) ∧ (¬ ((((l0 ^^^ (-1 : Int32)) &&& (l0 - (1 : Int32))).toUInt32 >>> ((16 : Int32).toUInt32 &&& Int32.toUInt32 31)).toInt32) ≤ (4 : Int32) → P (.inl (some (.int ((((1 : Int32) + (16 : Int32)) + (2 : Int32)) + ((((((((l0 ^^^ (-1 : Int32)) &&& (l0 - (1 : Int32))).toUInt32 >>> ((16 : Int32).toUInt32 &&& Int32.toUInt32 31)).toInt32).toUInt32 >>> ((2 : Int32).toUInt32 &&& Int32.toUInt32 31)).toInt32).toUInt32 >>> ((1 : Int32).toUInt32 &&& Int32.toUInt32 31)).toInt32))))) h)) ∧ (¬ ((((l0 ^^^ (-1 : Int32)) &&& (l0 - (1 : Int32))).toUInt32 >>> ((16 : Int32).toUInt32 &&& Int32.toUInt32 31)).toInt32) ≤ (16 : Int32) → (((((((l0 ^^^ (-1 : Int32)) &&& (l0 - (1 : Int32))).toUInt32 >>> ((16 : Int32).toUInt32 &&& Int32.toUInt32 31)).toInt32).toUInt32 >>> ((4 : Int32).toUInt32 &&& Int32.toUInt32 31)).toInt32) ≤ (4 : Int32) → P (.inl (some (.int ((((1 : Int32) + (16 : Int32)) + (4 : Int32)) + ((((((((l0 ^^^ (-1 : Int32)) &&& (l0 - (1 : Int32))).toUInt32 >>> ((16 : Int32).toUInt32 &&& Int32.toUInt32 31)).toInt32).toUInt32 >>> ((4 : Int32).toUInt32 &&& Int32.toUInt32 31)).toInt32).toUInt32 >>> ((1 : Int32).toUInt32 &&& Int32.toUInt32 31)).toInt32))))) h) ∧ (¬ ((((((l0 ^^^ (-1 : Int32)) &&& (l0 - (1 : Int32))).toUInt32 >>> ((16 : Int32).toUInt32 &&& Int32.toUInt32 31)).toInt32).toUInt32 >>> ((4 : Int32).toUInt32 &&& Int32.toUInt32 31)).toInt32) ≤ (4 : Int32) → P (.inl (some (.int (((((1 : Int32) + (16 : Int32)) + (4 : Int32)) + (2 : Int32)) + ((((((((((l0 ^^^ (-1 : Int32)) &&& (l0 - (1 : Int32))).toUInt32 >>> ((16 : Int32).toUInt32 &&& Int32.toUInt32 31)).toInt32).toUInt32 >>> ((4 : Int32).toUInt32 &&& Int32.toUInt32 31)).toInt32).toUInt32 >>> ((2 : Int32).toUInt32 &&& Int32.toUInt32 31)).toInt32).toUInt32 >>> ((1 : Int32).toUInt32 &&& Int32.toUInt32 31)).toInt32))))) h))) ∧ (¬ ((((l0 ^^^ (-1 : Int32)) &&& (l0 - (1 : Int32))).toUInt32 >>> ((16 : Int32).toUInt32 &&& Int32.toUInt32 31)).toInt32) ≤ (256 : Int32) → (((((((l0 ^^^ (-1 : Int32)) &&& (l0 - (1 : Int32))).toUInt32 >>> ((16 : Int32).toUInt32 &&& Int32.toUInt32 31)).toInt32).toUInt32 >>> ((8 : Int32).toUInt32 &&& Int32.toUInt32 31)).toInt32) ≤ (16 : Int32) → (((((((l0 ^^^ (-1 : Int32)) &&& (l0 - (1 : Int32))).toUInt32 >>> ((16 : Int32).toUInt32 &&& Int32.toUInt32 31)).toInt32).toUInt32 >>> ((8 : Int32).toUInt32 &&& Int32.toUInt32 31)).toInt32) ≤ (4 : Int32) → P (.inl (some (.int ((((1 : Int32) + (16 : Int32)) + (8 : Int32)) + ((((((((l0 ^^^ (-1 : Int32)) &&& (l0 - (1 : Int32))).toUInt32 >>> ((16 : Int32).toUInt32 &&& Int32.toUInt32 31)).toInt32).toUInt32 >>> ((8 : Int32).toUInt32 &&& Int32.toUInt32 31)).toInt32).toUInt32 >>> ((1 : Int32).toUInt32 &&& Int32.toUInt32 31)).toInt32))))) h) ∧ (¬ ((((((l0 ^^^ (-1 : Int32)) &&& (l0 - (1 : Int32))).toUInt32 >>> ((16 : Int32).toUInt32 &&& Int32.toUInt32 31)).toInt32).toUInt32 >>> ((8 : Int32).toUInt32 &&& Int32.toUInt32 31)).toInt32) ≤ (4 : Int32) → P (.inl (some (.int (((((1 : Int32) + (16 : Int32)) + (8 : Int32)) + (2 : Int32)) + ((((((((((l0 ^^^ (-1 : Int32)) &&& (l0 - (1 : Int32))).toUInt32 >>> ((16 : Int32).toUInt32 &&& Int32.toUInt32 31)).toInt32).toUInt32 >>> ((8 : Int32).toUInt32 &&& Int32.toUInt32 31)).toInt32).toUInt32 >>> ((2 : Int32).toUInt32 &&& Int32.toUInt32 31)).toInt32).toUInt32 >>> ((1 : Int32).toUInt32 &&& Int32.toUInt32 31)).toInt32))))) h)) ∧ (¬ ((((((l0 ^^^ (-1 : Int32)) &&& (l0 - (1 : Int32))).toUInt32 >>> ((16 : Int32).toUInt32 &&& Int32.toUInt32 31)).toInt32).toUInt32 >>> ((8 : Int32).toUInt32 &&& Int32.toUInt32 31)).toInt32) ≤ (16 : Int32) → (((((((((l0 ^^^ (-1 : Int32)) &&& (l0 - (1 : Int32))).toUInt32 >>> ((16 : Int32).toUInt32 &&& Int32.toUInt32 31)).toInt32).toUInt32 >>> ((8 : Int32).toUInt32 &&& Int32.toUInt32 31)).toInt32).toUInt32 >>> ((4 : Int32).toUInt32 &&& Int32.toUInt32 31)).toInt32) ≤ (4 : Int32) → P (.inl (some (.int (((((1 : Int32) + (16 : Int32)) + (8 : Int32)) + (4 : Int32)) + ((((((((((l0 ^^^ (-1 : Int32)) &&& (l0 - (1 : Int32))).toUInt32 >>> ((16 : Int32).toUInt32 &&& Int32.toUInt32 31)).toInt32).toUInt32 >>> ((8 : Int32).toUInt32 &&& Int32.toUInt32 31)).toInt32).toUInt32 >>> ((4 : Int32).toUInt32 &&& Int32.toUInt32 31)).toInt32).toUInt32 >>> ((1 : Int32).toUInt32 &&& Int32.toUInt32 31)).toInt32))))) h) ∧ (¬ ((((((((l0 ^^^ (-1 : Int32)) &&& (l0 - (1 : Int32))).toUInt32 >>> ((16 : Int32).toUInt32 &&& Int32.toUInt32 31)).toInt32).toUInt32 >>> ((8 : Int32).toUInt32 &&& Int32.toUInt32 31)).toInt32).toUInt32 >>> ((4 : Int32).toUInt32 &&& Int32.toUInt32 31)).toInt32) ≤ (4 : Int32) → P (.inl (some (.int ((((((1 : Int32) + (16 : Int32)) + (8 : Int32)) + (4 : Int32)) + (2 : Int32)) + ((((((((((((l0 ^^^ (-1 : Int32)) &&& (l0 - (1 : Int32))).toUInt32 >>> ((16 : Int32).toUInt32 &&& Int32.toUInt32 31)).toInt32).toUInt32 >>> ((8 : Int32).toUInt32 &&& Int32.toUInt32 31)).toInt32).toUInt32 >>> ((4 : Int32).toUInt32 &&& Int32.toUInt32 31)).toInt32).toUInt32 >>> ((2 : Int32).toUInt32 &&& Int32.toUInt32 31)).toInt32).toUInt32 >>> ((1 : Int32).toUInt32 &&& Int32.toUInt32 31)).toInt32))))) h))))) ∧ (¬ 0 < ((l0 ^^^ (-1 : Int32)) &&& (l0 - (1 : Int32))) → P (.inl (some (.int (((l0 ^^^ (-1 : Int32)) &&& (l0 - (1 : Int32))) &&& (32 : Int32))))) h)) : Ev G m_JI_numberOfTrailingZeros 0 [.int l0, un] [] h 0 0 P := wp_sound hl (tk_JI_numberOfTrailingZeros) (n := 56) (i := 0) (ct := ct_JI_numberOfTrailingZeros) rfl H
theorem en_JI_numberOfTrailingZeros {G : Gx} (h : Hp) (P : Res → Hp → Prop) (l0 : Int32) (k : Ev G m_JI_numberOfTrailingZeros 0 [.int l0, un] [] h 0 0 P) : EvM G m_JI_numberOfTrailingZeros [.int l0] h P := EvM.of (by decide) (by simp [Value.category]) (Nat.le_of_ble_eq_true rfl) (k)
end
section
theorem i_vc : Claimed_1_1 ∧ Claimed_1_2 := sorry
end
