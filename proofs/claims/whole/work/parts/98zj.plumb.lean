/-! ===== from the abstract machine to the law's claim ===== -/
theorem room_of {s : State} {pl : Platform} {R R' : Room} (h : s.hasRoom pl R = true) (h1 : R'.frames ≤ R.frames) (h2 : R'.cells ≤ R.cells) (h3 : R'.slots ≤ R.slots) (h4 : R'.locals ≤ R.locals) : s.hasRoom pl R' = true := by
  simp only [State.hasRoom, Bool.and_eq_true, decide_eq_true_eq] at h ⊢
  obtain ⟨⟨⟨⟨a, b1, b2, b3, b4, b5⟩, c⟩, d⟩, e⟩ := h
  exact ⟨⟨⟨⟨by omega, by omega, by omega, by omega, by omega, b5⟩, by omega⟩, by omega⟩, e⟩
theorem W.room {p : Program} {l : Launch} {e : Env} {R R' : Room} {s : State} {m : MethodId} {args : Array Value} {below : List Frame} {meth : Method} {c : Code} {H : Heap} {locs : List Loc} {cells slots : Nat} {Q : State → Prop} {g : JFrame} (h : W p l e R' s m args below meth c H locs cells slots Q g) (h1 : R'.frames ≤ R.frames) (h2 : R'.cells ≤ R.cells) (h3 : R'.slots ≤ R.slots) (h4 : R'.locals ≤ R.locals) : W p l e R s m args below meth c H locs cells slots Q g :=
  fun T hT X => h T hT { X with room := room_of X.room h1 h2 h3 h4 }
theorem same_new {s t : State} {L : List Loc} {k n : Nat} (h : s.sameButNew t L k n) (hL : ∀ q ∈ L, s.heap.size ≤ q.base) : s.sameButNew t [] k n := by
  obtain ⟨a, b, c, d, e, f⟩ := h
  refine ⟨a, b, c, d, e, fun x y hx => ?_⟩
  obtain ⟨c', f1, f2, f3, f4⟩ := f x y hx
  refine ⟨c', f1, f2, f3, fun i _ => f4 i (fun hm => ?_)⟩
  have h1 := hL _ hm
  have h2 : x < s.heap.size := (Array.getElem?_eq_some_iff.mp hx).1
  exact absurd h1 (Nat.not_le_of_lt h2)
def R_law : String := "GripEstatesLaw"
def lw_Q (_ : Array Value) (s : State) (o : Outcome) (t : State) : Prop := o = .returned (some (.int 1)) ∧ Framed s o t [] 601024 7293034
def lw_Z (below : List Frame) (a : Array Value) (s : State) : State → Prop := fun t => ∃ o, t.status = .running ∧ Ended t below o ∧ lw_Q a s o t
def lw_At (p : Program) (s : State) (m : MethodId) (meth : Method) (c : Code) (b L : Nat) (xs : Nat → Int32) : Prop :=
  p.tables.exec = Jvm.exec ∧ c.code = code ∧ meth.sig.returnType = ret ∧ c.maxLocals = 7 ∧ s.vm.findClass R_law = some m.cls ∧ (∀ w ∈ lw_tbl, w.before #[Value.ref b] s = true) ∧ va_X b L xs s s.heap ∧ b < s.heap.size ∧ meth.locks = false ∧ (Jvm.Cond.and given_1 narrow_1).before #[Value.ref b] s = true
/-- where the abstract machine begins -/
def Init (l : Launch) (s : State) (b L : Nat) (xs : Nat → Int32) : Prop := ∃ (G : Gx) (tk : Nat → Nat) (h0 : Hp), G.1 = l ∧ G.n0 = s.heap.size ∧ Gok G s ∧ Rel G h0 s s.heap ∧ Old G h0 tk ∧ LitG G h0 ∧ h0.1 b = (101, L) ∧ ∀ j, j < L → h0.2.1 b j = .int (xs j)
theorem w_start {p : Program} {e : Env} {s : State} {m : MethodId} {below : List Frame} {meth : Method} {c : Code} (l : Launch) (hl : l.stackTraces = false) {b L : Nat} {xs : Nat → Int32} (hL : L ≤ 3072) (C0 : lw_At p s m meth c b L xs) (I : Init l s b L xs) : W p l e room_1 s m #[Value.ref b] below meth c s.heap [] 0 0 (lw_Z below #[Value.ref b] s) (entryFrame m ([Value.ref b] : List Value).toArray 7) := by
  obtain ⟨a1, a2, a3, a4, a5, a6, a7, a8, a9, a10⟩ := C0
  obtain ⟨G, tk, h0, rfl, e2, gok, rel, O, Lg, sb, sx⟩ := I
  have K := l_start (G := G) (hh := c.exceptionTable.toList.map fun h => (h.startPc, h.endPc, h.handlerPc, h.catchType)) (tk := tk) (xs := xs) (P := fun o _ => o = .inl (some (.int 1))) hl (by rw [e2]; exact a8) hL rel.2.1 O Lg sb sx (fun _ => rfl)
  have hln := lv_entry [Value.ref b] (n := 7) (by show 1 ≤ 7; decide)
  rw [lg_entry_eq]
  generalize (lg_sl [Value.ref b] ++ List.replicate (7 - (lg_sl [Value.ref b]).length) Slot.unset).toArray = ls at hln ⊢
  have LRb : LR m_law.ml ls [.ref b, un, un, un, un, un, un] := by
    refine ⟨hln.1, hln.2.1, rfl, fun i v hi hv => ?_⟩
    match i, hi with
    | 0, hi => cases hi; exact ⟨rfl, hln.2.2 (0, .ref b) (args_in [Value.ref b] 0 0 (.ref b) (fun w hw => by simp only [List.mem_cons, List.not_mem_nil, or_false] at hw; rw [hw]; rfl) rfl)⟩
    | 1, hi => cases hi; exact absurd rfl hv
    | 2, hi => cases hi; exact absurd rfl hv
    | 3, hi => cases hi; exact absurd rfl hv
    | 4, hi => cases hi; exact absurd rfl hv
    | 5, hi => cases hi; exact absurd rfl hv
    | 6, hi => cases hi; exact absurd rfl hv
    | i + 7, hi => exact nomatch hi
  have F : FrH G m_law (c.exceptionTable.toList.map fun h => (h.startPc, h.endPc, h.handlerPc, h.catchType)) p s m #[Value.ref b] meth c := ⟨a1, a2, a3, a4, a5, fun w hw => a6 w (List.mem_filter.mp hw).1, a9, trivial, gok, (table_eq _).symm⟩
  have W0 := K p e s m #[Value.ref b] below meth c ls s.heap [] F LRb rel va_S.rf (Nat.zero_le _) (Nat.zero_le _)
  refine W.room (R' := m_law.rm) ?_ (by decide) (by decide) (by decide) (by decide)
  intro T hT X
  obtain ⟨t, st, o, r1, r2, r3⟩ := W0 T hT X
  refine ⟨t, st, o, r1, r2, ?_⟩
  rcases r3 with ⟨⟨v, h', rfl, hv, -⟩, Lc, ⟨f1, f2, f3⟩, fr⟩ | ⟨q, -, E, ce, Lc, ⟨h', hv, -⟩, -⟩
  · have e : v = some (.int 1) := by cases hv; rfl
    subst e
    exact ⟨rfl, f1, f2, same_new f3 (fun q hq => by have := fr q hq; rw [← e2]; exact this)⟩
  · exact nomatch hv
