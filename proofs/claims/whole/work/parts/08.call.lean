/-! ===== copies, clones, calls, entries, throws ===== -/
def hcpy (h : Hp) (a0 a n : Nat) : Hp := (h.1, fun b j => if b = a ∧ j < n then h.2.1 a0 j else h.2.1 b j, h.2.2)
theorem storePairs_get (at_ : Nat) : ∀ (xs : List Value) (k : Nat) (c : Cell) (i : Nat), (c.storePairs at_ (xs.zipIdx k)).slots[i]? = if at_ + k ≤ i ∧ i < at_ + k + xs.length ∧ i < c.slots.size then xs[i - (at_ + k)]? else c.slots[i]?
  | [], k, c, i => by
    rw [if_neg (by simp only [List.length_nil]; omega)]
    rfl
  | x :: xs, k, c, i => by
    rw [List.zipIdx_cons]
    show ((c.setSlot (at_ + k) x).storePairs at_ (xs.zipIdx (k + 1))).slots[i]? = _
    rw [storePairs_get at_ xs (k + 1), k2_slotsz]
    by_cases hik : i = at_ + k
    · subst hik
      rw [if_neg (by omega)]
      by_cases hs : at_ + k < c.slots.size
      · rw [if_pos ⟨Nat.le_refl _, by simp only [List.length_cons]; omega, hs⟩, Nat.sub_self]
        simp [Cell.setSlot, hs]
      · rw [if_neg (by omega)]
        simp [Cell.setSlot, hs]
    · by_cases h : at_ + (k + 1) ≤ i ∧ i < at_ + (k + 1) + xs.length ∧ i < c.slots.size
      · rw [if_pos h, if_pos (by simp only [List.length_cons]; omega)]
        rw [show i - (at_ + k) = (i - (at_ + (k + 1))) + 1 by omega, List.getElem?_cons_succ]
      · rw [if_neg h, if_neg (by simp only [List.length_cons]; omega)]
        simp [Cell.setSlot, Array.getElem?_setIfInBounds, Ne.symm hik]
theorem hcpy_ne {h : Hp} {a0 a n b : Nat} (hb : b ≠ a) : (hcpy h a0 a n).2.1 b = h.2.1 b := by
  funext j
  simp [hcpy, hb]
theorem Rel.cpy {G : Gx} {h : Hp} {U : State} {H H1 : Heap} (hR : Rel G h U H) {a0 a j n k : Nat} {cell : Cell} (hkd : h.1 a = (101 + j, n)) (hsz : H1.size = H.size) (hne : ∀ q, q ≠ a → H1[q]? = H[q]?)
    (hcell : H1[a]? = some cell) (harr : U.isArrayOf cell (aty j)) (hvm : cell.vm ≠ .unknown) (hs : cell.slots.size = n) (hn : n < 2 ^ 31) (hv : ∀ i, i < n → cell.slots[i]? = some (if i < k then h.2.1 a0 i else h.2.1 a i)) (hra : G.n0 ≤ a → va_RA U cell.cls (aty j)) : Rel G (hcpy h a0 a k) U H1 := by
  refine ⟨hsz.trans hR.1, hR.2.1, fun b => ?_⟩
  by_cases hb : b = a
  · subst hb
    refine ⟨fun h8 h9 => ?_, fun _ => ⟨cell, hcell, ?_, hvm, ?_, ?_, fun i hi => ?_, fun z => ?_⟩⟩
    · have : (h.1 b).1 ≤ 100 := h9
      rw [hkd] at this
      have : 101 + j ≤ 100 := this
      omega
    · show U.isArrayOf cell (aty ((h.1 b).1 - 101))
      rw [hkd, show (101 + j, n).1 - 101 = j from by show 101 + j - 101 = j; omega]
      exact harr
    · show szk G b (h.1 b).1 (h.1 b).2 cell.slots.size
      rw [hkd]; exact szk.of hs
    · show (h.1 b).2 < _
      rw [hkd]; exact hn
    · have hi' : i < (h.1 b).2 := hi
      rw [hkd] at hi'
      rw [hv i hi']
      show _ = some (if b = b ∧ i < k then h.2.1 a0 i else h.2.1 b i)
      simp
    · show va_RA U cell.cls (aty ((h.1 b).1 - 101))
      rw [hkd, show (101 + j, n).1 - 101 = j from by show 101 + j - 101 = j; omega]
      exact hra z
  · rw [hcpy_ne hb]
    exact (hR.2.2 b).kept (hne b hb)
section EVC
variable {G : Gx} {r : Mr} {pc : Nat} {L st : List Value} {h : Hp} {cs ss : Nat} {Post : Res → Hp → Prop}
theorem nonneg_toInt {z : Int32} (hz : ¬ z < 0) : z.toInt = (z.toNatClampNeg : Int) := by
  have hz0 : (0 : Int) ≤ z.toInt := by
    have := Int32.not_lt.mp hz
    simpa using Int32.le_iff_toInt_le.mp this
  show z.toInt = ((z.toInt.toNat : Nat) : Int)
  omega
/-- System.arraycopy of ints, from the begins on -/
theorem ev_copy {a0 a n0 n1 idx : Nat} {n : Int32} (hw : Cond.methodLink r.1.cls idx arraycopyName ∈ lw_good) (hw2 : Cond.native arraycopyName ∈ lw_good) (hw3 : Cond.static arraycopyName ∈ lw_good) (hw4 : Cond.initialized "java/lang/System" ∈ lw_good)
    (ha : G.n0 ≤ a) (hk0 : h.1 a0 = (101, n0)) (hk1 : h.1 a = (101, n1)) (hn : ¬ n < 0) (h4 : n.toNatClampNeg ≤ n0) (h5 : n.toNatClampNeg ≤ n1) (hfit : ∀ i, i < n.toNatClampNeg → ∃ x, h.2.1 a0 i = .int x)
    (hdp : 1 ≤ r.dp) (hst : (st.map fun v => v.category).sum ≤ 8) (hd : decode r.2.1 pc = .ok (.invokestatic idx, 3)) (kk : Ev G r (pc + 3) L st (hcpy h a0 a n.toNatClampNeg) cs ss Post) : Ev G r pc L (.int n :: .int 0 :: .ref a :: .int 0 :: .ref a0 :: st) h cs ss Post := by
  intro p e s m args below meth c ls H locs F hl hR hS h1 h2
  have hts := F.2.2.2.2.2.1
  obtain ⟨cell0, q1, q2, q3, q4, q5, q6, q7⟩ := hR.arr (j := 0) hk0
  obtain ⟨cell1, g1, g2, g3, g4, g5, g6, g7⟩ := hR.arr (j := 0) hk1
  replace q4 := q4.int (by decide)
  replace g4 := g4.int (by decide)
  obtain ⟨kc0, hkc0, cm0, hkk0⟩ := q2.2
  obtain ⟨kc1, hkc1, cm1, hkk1⟩ := g2.2
  have z0 : (0 : Int32).toNatClampNeg = 0 := by decide
  have zi : (0 : Int32).toInt = 0 := by decide
  have hnat : (nativeFrameWords "java/lang/System" "arraycopy" 5 + 11) ≤ 50 := by decide
  intro T hT X
  obtain ⟨vm', X', step⟩ := X.arraycopy F.1 F.2.2.2.2.1 (hts _ hw) (hts _ hw2) (hts _ hw3) (hts _ hw4) (src := a0) (dst := a) (cs := cell0) (cd := cell1) (srcPos := 0) (destPos := 0) (n := n) (by rw [hT]; exact q1) (by rw [hT]; exact g1)
    q2.1 g2.1 q3 g3 hkc0 hkc1 hkk0 hkk1 (by decide) (by decide) (by decide) hn
    (by rw [nonneg_toInt hn, zi, q4]; omega) (by rw [nonneg_toInt hn, zi, g4]; omega)
    (fun vm₁ _ i hi => by
      obtain ⟨x, hx⟩ := hfit i hi
      have e9 : cell0.slots.getD ((0 : Int32).toNatClampNeg + i) .null = .int x := by
        rw [z0, Nat.zero_add, Array.getD_eq_getD_getElem?, q6 i (by omega), hx]
        rfl
      rw [e9]
      exact ⟨rfl, trivial⟩)
    (g := F0 m pc ls (.int n :: .int 0 :: .ref a :: .int 0 :: .ref a0 :: st)) rfl (by rw [F.2.2.2.1]; exact hl.1) (rest := st) rfl (by rw [F.2.1]; exact hd) hdp (by show 2 * 0 + _ + _ ≤ 64 * r.dp; omega)
  have hlt : a < H.size := (Array.getElem?_eq_some_iff.mp g1).1
  generalize hcc : copied cell0 cell1 0 0 n = cellN at X' step
  have hrun : cellN = cell1.storePairs 0 ((cell0.stretch 0 n.toNatClampNeg).zipIdx) := by rw [← hcc]; show cell1.storeRun (0 : Int32).toNatClampNeg (cell0.stretch (0 : Int32).toNatClampNeg n.toNatClampNeg) = _; rw [z0]; rfl
  have hlen : (cell0.stretch 0 n.toNatClampNeg).length = n.toNatClampNeg := by simp [Cell.stretch]
  obtain ⟨f1, f2, f3, -⟩ := Cell.storePairs_facts cell1 0 ((cell0.stretch 0 n.toNatClampNeg).zipIdx)
  rw [← hrun] at f1 f2 f3
  have hget : ∀ i, i < n1 → cellN.slots[i]? = some (if i < n.toNatClampNeg then h.2.1 a0 i else h.2.1 a i) := by
    intro i hi
    rw [hrun, storePairs_get 0 (cell0.stretch 0 n.toNatClampNeg) 0 cell1 i, hlen]
    by_cases hin : i < n.toNatClampNeg
    · rw [if_pos ⟨by omega, by omega, by omega⟩, if_pos hin]
      simp only [Cell.stretch, Nat.add_zero, Nat.sub_zero, List.getElem?_map, List.getElem?_range hin, Option.map_some, Nat.zero_add]
      rw [Array.getD_eq_getD_getElem?, q6 i (by omega)]
      rfl
    · rw [if_neg (by omega), if_neg hin]
      exact g6 i hi
  have hheap : ((T.setVm vm').setCell a cellN).heap = H.setIfInBounds a cellN := by rw [← hT]; rfl
  have oq : ∀ q : Nat, q ≠ a → (H.setIfInBounds a cellN)[q]? = H[q]? := fun q hq => by simp [Array.getElem?_setIfInBounds, Ne.symm hq]
  obtain ⟨t, a1, b1⟩ := kk p e s m args below meth c ls (H.setIfInBounds a cellN) _ F hl (hR.cpy (j := 0) hk1 (by simp) oq (cell := cellN) (by simp [Array.getElem?_setIfInBounds, hlt]) ⟨fun k => by rw [f2]; exact g2.1 k, by rw [f1]; exact g2.2⟩ (by rw [f2]; exact g3) (by rw [f3]; exact g4) g5 hget (fun z => by rw [f1]; exact g7 z))
    ⟨by simp; exact hS.1, fun q y1 y2 => by rw [oq q (fun e => y2 (by rw [e]; exact ha))]; exact hS.2.1 q y1 y2, fun q hq => by
      rcases List.mem_append.mp hq with hh | hh
      · exact hS.2.2 q hh
      · obtain ⟨z, -, hz⟩ := List.mem_map.mp hh
        rw [← hz]
        exact ha⟩ h1 h2 _ hheap X'
  exact ⟨t, step t a1, b1⟩
/-- int[].clone(), and the cast behind it -/
theorem ev_clone {a n idx : Nat} (hw : Cond.methodLink r.1.cls idx ⟨"[I", "clone", "()Ljava/lang/Object;"⟩ ∈ lw_good) (hw1 : Cond.sameMethod "[I" "java/lang/Object" "clone" "()Ljava/lang/Object;" ∈ lw_good) (hw2 : Cond.native ⟨"java/lang/Object", "clone", "()Ljava/lang/Object;"⟩ ∈ lw_good)
    (hw3 : Cond.instanceMethod ⟨"java/lang/Object", "clone", "()Ljava/lang/Object;"⟩ ∈ lw_good) (hw4 : Cond.selects "[I" ⟨"[I", "clone", "()Ljava/lang/Object;"⟩ ⟨"java/lang/Object", "clone", "()Ljava/lang/Object;"⟩ ∈ lw_good)
    (ha : G.n0 ≤ a) (hk : h.1 a = (101, n)) (hfit : ∀ i, i < n → ∃ x, h.2.1 a i = .int x) (hdp : 1 ≤ r.dp) (hst : (st.map fun v => v.category).sum ≤ 8) (hcs : cs + 1 ≤ r.mc) (hss : ss + n ≤ r.ms) (hd : decode r.2.1 pc = .ok (.invokevirtual idx, 3))
    (kk : Ev G r (pc + 3) L (.ref h.2.2 :: st) (hnew h (101, n) (h.2.1 a)) (cs + 1) (ss + n) Post) : Ev G r pc L (.ref a :: st) h cs ss Post := by
  intro p e s m args below meth c ls H locs F hl hR hS h1 h2
  have hts := F.2.2.2.2.2.1
  obtain ⟨cell, q1, q2, q3, q4, q5, q6, q7⟩ := hR.arr (j := 0) hk
  replace q4 := q4.int (by decide)
  have hnm : s.vm.findClass "[I" = some cell.cls := q7 ha
  obtain ⟨c0, t0', f1, f2, f3⟩ := Cond.castable_spec (va_Nw.use (A := args) rfl (F.2.2.2.2.2.2.2.2.1.2.2.2.2.2.2.2.1 ("[I", "java/lang/Cloneable") (by decide +kernel)))
  have f1' : s.vm.findClass "[I" = some c0 := f1
  cases hnm.symm.trans f1'
  obtain ⟨kS, hkS, compS, hkindS⟩ := q2.2
  intro T hT X
  obtain ⟨-, kA, hkA, comp, hkind⟩ := State.isArrayOf_alike X.warmed.alike q2
  obtain ⟨vm', X', stp⟩ := X.cloneArray F.1 F.2.2.2.2.1 (hts _ hw) (hts _ hw1) (hts _ hw2) (hts _ hw3) (hts _ hw4) (a := a) (cell := cell) (by rw [hT]; exact q1) q2.1 q3 hnm f2 f3
    (fun i v hv => by
      have hil : i < n := by rw [← q4]; exact (Array.getElem?_eq_some_iff.mp hv).1
      obtain ⟨x, hx⟩ := hfit i hil
      have e9 : v = .int x := Option.some.inj (hv.symm.trans ((q6 i hil).trans (congrArg some hx)))
      subst e9
      simp [State.fitsSlot, State.slotType?, hkA, hkind, aty, fits])
    (g := F0 m pc ls (.ref a :: st)) rfl (by rw [F.2.2.2.1]; exact hl.1) rfl (by rw [F.2.1]; exact hd) hdp (by show 2 * 0 + _ + 14 ≤ 64 * r.dp; omega) hcs (by rw [q4]; exact hss) (hloader := Vm.clonesLoader_of_array hkS hkindS)
  rw [q4] at X'
  have z1 : (H.push { cls := cell.cls, slots := cell.slots }).size = H.size + 1 := Array.size_push _
  have z2 : (H.push { cls := cell.cls, slots := cell.slots })[H.size]? = some ({ cls := cell.cls, slots := cell.slots } : Cell) := Array.getElem?_push_size
  have z3 : ∀ q : Nat, q < H.size → (H.push { cls := cell.cls, slots := cell.slots })[q]? = H[q]? := fun q hq => by rw [Array.getElem?_push, if_neg (Nat.ne_of_lt hq)]
  obtain ⟨t, b1, b2⟩ := kk p e s m args below meth c ls (H.push { cls := cell.cls, slots := cell.slots }) locs F hl (hR.fresh z1 z3 ⟨fun h8 h9 => absurd (show 101 ≤ 100 from h9) (by decide), fun _ => ⟨_, z2, ⟨(fun k z => nomatch (show VmData.none = VmData.statics k from z)), q2.2⟩, (fun z => nomatch (show VmData.none = VmData.unknown from z)), szk.of q4, q5, q6, fun _ => hnm⟩⟩)
    ⟨Nat.le_trans hS.1 (by omega), fun q y1 y2 => (z3 q (Nat.lt_of_lt_of_le y1 hS.1)).trans (hS.2.1 q y1 y2), hS.2.2⟩ hcs hss ((T.setVm vm').pushCell { cls := cell.cls, slots := cell.slots }) (by rw [← hT]; rfl) X'
  refine ⟨t, stp t ?_, b2⟩
  rw [hT, hR.1]
  exact b1
end EVC
