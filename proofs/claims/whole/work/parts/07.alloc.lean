/-! ===== rows that make cells; copies; Object() ===== -/
section EVA
variable {G : Gx} {r : Mr} {pc : Nat} {L st : List Value} {h : Hp} {cs ss : Nat} {Post : Res → Hp → Prop}
theorem ev_new {ci idx N : Nat} {C : String} {T : u_T} {f : Nat → Value} (hc : cls[ci]? = some (C, T, N)) (hw : Cond.classLink r.1.cls idx C ∈ lw_good) (hi : Cond.instantiable C N ∈ lw_good) (hin : Cond.initialized C ∈ lw_good)
    (hf : ∀ k, k < N → ∃ ty, parseFieldDescriptor (T k).2.2.1 = some ty ∧ f k = defaultValue ty) (hd : decode r.2.1 pc = .ok (.new idx, 3)) (hcs : cs + 1 ≤ r.mc) (hss : ss + N ≤ r.ms)
    (kk : Ev G r (pc + 3) L (.ref h.2.2 :: st) (hnew h (ci + 1, N) f) (cs + 1) (ss + N) Post) : Ev G r pc L st h cs ss Post := by
  intro p e s m args below meth c ls H locs F hl hR hS h1 h2
  have hts := F.2.2.2.2.2.1
  have hK := F.2.2.2.2.2.2.2.2.1.2.1 ci _ hc
  refine W.newcK F.1 F.2.1 F.2.2.2.2.1 (hts _ hw) (hts _ hi) (hts _ hin) rfl hd hcs hss hK.2.1 hR.1 fun H' kC g1 g2 g3 g4 => ?_
  have ho : t_OB h.2.2 (G.2.1.1 ci) N (G.2.1.2 ci) H' f := by
    refine ⟨_, g2, rfl, rfl, fun k hk => ?_⟩
    obtain ⟨cf, kf, fi, fd, hfi, he⟩ := hK.1 k hk
    obtain ⟨ty, hty, hfk⟩ := hf k hk
    have h3 := (u_facts hK.2.1 g1 (u_lays hts (cls_ok hc).1 hk) hfi).2.2
    rw [(State.fieldFound?_type hfi hty).2] at h3
    rw [← he, hfk]
    exact k2_blank h3
  refine kk p e s m args below meth c ls H' locs F hl (hR.fresh (by rw [g3, hR.1]) (fun b hb => g4 b (by rw [← hR.1]; exact hb)) ?_) ⟨Nat.le_trans hS.1 (by rw [g3, hR.1]; omega), fun q q1 q2 => (g4 q (by rw [← hR.1]; exact Nat.lt_of_lt_of_le q1 hS.1)).trans (hS.2.1 q q1 q2), hS.2.2⟩ hcs hss
  rw [hR.1]
  refine ⟨fun _ _ => ⟨(C, T, N), ?_, rfl, ?_⟩, fun h9 => ?_⟩
  · show cls[ci + 1 - 1]? = _
    rw [Nat.add_sub_cancel]; exact hc
  · show t_OB h.2.2 (G.2.1.1 (ci + 1 - 1)) N (G.2.1.2 (ci + 1 - 1)) H' f
    rw [Nat.add_sub_cancel]; exact ho
  · have : 100 < ci + 1 := h9
    have := cls_lt hc
    omega
/-- arrays of numbers -/
theorem ev_newa {j : Nat} {at_ : ArrayType} {n : Int32} {N : Nat} {v : Value} (hw : Cond.arrayClass (newarray.typeOf at_) ∈ lw_good) (hj : newarray.typeOf at_ = aty j) (hj4 : j < 4) (hv : defaultValue (aty j) = v) (hn : ¬ n < 0) (hN : n.toNatClampNeg = N) (hb : N * componentBytes (aty j) ≤ 536870912)
    (hd : decode r.2.1 pc = .ok (.newarray at_, 2)) (hcs : cs + 1 ≤ r.mc) (hss : ss + N ≤ r.ms)
    (kk : Ev G r (pc + 2) L (.ref h.2.2 :: st) (hnew h (101 + j, N) (fun _ => v)) (cs + 1) (ss + N) Post) : Ev G r pc L (.int n :: st) h cs ss Post := by
  intro p e s m args below meth c ls H locs F hl hR hS h1 h2
  have hts := F.2.2.2.2.2.1
  have hN31 : N < 2 ^ 31 := by
    rw [← hN]
    have := n.toInt_lt
    have e : (n.toNatClampNeg : Int) = max n.toInt 0 := by
      show ((n.toInt.toNat : Nat) : Int) = _
      omega
    omega
  refine va_newaK F.1 F.2.1 (hts _ hw) rfl hd rfl hn hN (by rw [hj]; exact hb) hcs hss hR.1 fun H' cA g1 g2 g3 g4 g5 => ?_
  refine kk p e s m args below meth c ls H' locs F hl (hR.fresh (by rw [g2, hR.1]) (fun b hb => g3 b (by rw [← hR.1]; exact hb)) ?_) ⟨Nat.le_trans hS.1 (by rw [g2, hR.1]; omega), fun q q1 q2 => (g3 q (by rw [← hR.1]; exact Nat.lt_of_lt_of_le q1 hS.1)).trans (hS.2.1 q q1 q2), hS.2.2⟩ hcs hss
  rw [hR.1]
  refine ⟨fun h8 h9 => ?_, fun _ => ⟨_, g1, ?_, (fun z => nomatch (show VmData.none = VmData.unknown from z)), szk.of (arrV_size _ _ _), hN31, fun i hi => ?_, fun _ => ?_⟩⟩
  · have : 101 + j ≤ 100 := h9
    omega
  · show s.isArrayOf _ (aty (101 + j - 101))
    rw [show 101 + j - 101 = j by omega, ← hj]
    exact g4 _ _
  · rw [arrV_read _ _ hi, hj, hv]
  · show va_RA s cA (aty (101 + j - 101))
    rw [show 101 + j - 101 = j by omega]
    rw [hj] at g5
    have hcase : j = 0 ∨ j = 1 ∨ j = 2 ∨ j = 3 := by omega
    rcases hcase with rfl | rfl | rfl | rfl <;> exact g5
/-- arrays of references -/
theorem ev_newr {j idx : Nat} {C : String} {n : Int32} {N : Nat} (hw : Cond.classLink r.1.cls idx C ∈ lw_good) (hC : C ∈ aovers) (hj : aty j = .object C) (hn : ¬ n < 0) (hN : n.toNatClampNeg = N) (hb : N * 4 ≤ 536870912)
    (hd : decode r.2.1 pc = .ok (.anewarray idx, 3)) (hcs : cs + 1 ≤ r.mc) (hss : ss + N ≤ r.ms)
    (kk : Ev G r (pc + 3) L (.ref h.2.2 :: st) (hnew h (101 + j, N) (fun _ => .null)) (cs + 1) (ss + N) Post) : Ev G r pc L (.int n :: st) h cs ss Post := by
  intro p e s m args below meth c ls H locs F hl hR hS h1 h2
  have hts := F.2.2.2.2.2.1
  subst hN
  have hN31 : n.toNatClampNeg < 2 ^ 31 := by
    have := n.toInt_lt
    have e : (n.toNatClampNeg : Int) = max n.toInt 0 := by
      show ((n.toInt.toNat : Nat) : Int) = _
      omega
    omega
  refine W.anew F.1 F.2.1 F.2.2.2.2.1 (hts _ hw) (va_AO.use (F.2.2.2.2.2.2.2.2.1.2.2.2.2.2.2.2.2.2.2.1 C hC)) rfl hd rfl hn hb hcs hss fun cA kA comp g1 g2 g3 g4 => ?_
  rw [arrV_new, hR.1]
  have z1 : (H.push (arrV cA n.toNatClampNeg fun _ => .null)).size = H.size + 1 := Array.size_push _
  have z2 : (H.push (arrV cA n.toNatClampNeg fun _ => .null))[H.size]? = some (arrV cA n.toNatClampNeg fun _ => .null) := Array.getElem?_push_size
  have z3 : ∀ q : Nat, q < H.size → (H.push (arrV cA n.toNatClampNeg fun _ => .null))[q]? = H[q]? := fun q hq => by rw [Array.getElem?_push, if_neg (Nat.ne_of_lt hq)]
  refine kk p e s m args below meth c ls _ locs F hl (hR.fresh z1 z3 ?_) ⟨Nat.le_trans hS.1 (by omega), fun q q1 q2 => (z3 q (Nat.lt_of_lt_of_le q1 hS.1)).trans (hS.2.1 q q1 q2), hS.2.2⟩ hcs hss
  refine ⟨fun h8 h9 => ?_, fun _ => ⟨_, z2, ?_, (fun z => nomatch (show VmData.none = VmData.unknown from z)), szk.of (arrV_size _ _ _), hN31, fun i hi => arrV_read _ _ hi, fun _ => ?_⟩⟩
  · have : 101 + j ≤ 100 := h9
    omega
  · show s.isArrayOf _ (aty (101 + j - 101))
    rw [show 101 + j - 101 = j by omega, hj]
    exact ⟨(fun k z => nomatch (show VmData.none = VmData.statics k from z)), kA, g2, comp, g3⟩
  · show va_RA s cA (aty (101 + j - 101))
    rw [show 101 + j - 101 = j by omega, hj]
    exact ⟨kA, comp, g2, g3, g4, g1⟩
/-- a cell of the classes, or an old object, into an array of references -/
theorem ev_aast {a n j v : Nat} {i : Int32} {C : String} (hj : 4 ≤ j) (hjC : aty j = .object C) (ha : G.n0 ≤ a) (hkd : h.1 a = (101 + j, n)) (hin : vp_in i n) (hv : (∃ (ci N : Nat) (T : u_T), cls[ci]? = some (C, T, N) ∧ (h.1 v).1 = ci + 1) ∨ (∃ o, ocs[o]? = some C ∧ G.oc v = o + 1))
    (hd : decode r.2.1 pc = .ok (.aastore, 1)) (kk : Ev G r (pc + 1) L st (hset h a i.toNatClampNeg (.ref v)) cs ss Post) (hcl : ∀ (s : State) (args : Array Value), Gok G s → (∀ w ∈ lw_good, w.before args s = true) → ∃ cC, ClassAt s C cC) : Ev G r pc L (.ref v :: .int i :: .ref a :: st) h cs ss Post := by
  intro p e s m args below meth c ls H locs F hl hR hS h1 h2
  obtain ⟨cell, q1, q2, q3, q4, q5, q6, q7⟩ := hR.arr (j := j) hkd
  have hra := q7 ha
  rw [hjC] at hra
  obtain ⟨kA, comp, k1, k2, k3, -⟩ := hra
  obtain ⟨cC, hcC⟩ := hcl s args F.2.2.2.2.2.2.2.2.1 F.2.2.2.2.2.1
  have hcomp : comp = cC := Option.some.inj (k3.symm.trans hcC.1)
  subst hcomp
  obtain ⟨kC, hkC, hkind⟩ := hcC.2
  have hcv : ∃ cv : Cell, H[v]? = some cv ∧ (∀ q, cv.vm ≠ .statics q) ∧ cv.cls = comp := by
    rcases hv with ⟨ci, N, T, e1, e2⟩ | ⟨o, e1, e2⟩
    · obtain ⟨cv, g1, g2, g3, -⟩ := hR.obj e1 e2 (cls_lt e1)
      have hk := (F.2.2.2.2.2.2.2.2.1.2.1 ci _ e1).2
      exact ⟨cv, g1, (fun q z => by rw [g3] at z; cases z), by rw [g2]; exact Option.some.inj (hk.1.symm.trans hcC.1)⟩
    · obtain ⟨cv, g1, g2, g3, -⟩ := (F.2.2.2.2.2.2.2.2.1.2.2.2.2.1 o v C e1 e2).kept hS.2.1
      exact ⟨cv, g1, (fun q z => by rw [z] at g2; cases g2), Option.some.inj (g3.symm.trans hcC.1)⟩
  obtain ⟨cv, g1, g2, g3⟩ := hcv
  refine W.aast F.1 F.2.1 q1 q2.1 q3 k1 k2 rfl hkC ⟨fun z => hin (Or.inl z), by rw [q4.new ha]; exact vp_in_lt hin⟩ g1 g2 (by rw [g3]; exact hkC) (by rw [g3]; exact va_assign hcC) rfl rfl hd fun H' e1 e2 e3 => ?_
  exact kk p e s m args below meth c ls H' _ F hl (hR.putA (j := j) hkd e2 e3 e1 (isArr_set q2) q3 (by rw [k2_slotsz]; exact q4.new ha) q5 (set_get (q4.new ha) (vp_in_lt hin) q6) q7) (hS.put e2 e3 ha) h1 h2
theorem ev_objInit {a idx : Nat} (hw : Cond.methodLink r.1.cls idx objectInit ∈ lw_good) (hw2 : Cond.instanceMethod objectInit ∈ lw_good) (hw3 : Cond.code objectInit ⟨#[0xb1]⟩ 1 none ∈ lw_good) (hd : decode r.2.1 pc = .ok (.invokespecial idx, 3)) (hdp : 1 ≤ r.dp) (hst : (st.map fun v => v.category).sum ≤ 8)
    (kk : Ev G r (pc + 3) L st h cs ss Post) : Ev G r pc L (.ref a :: st) h cs ss Post := by
  intro p e s m args below meth c ls H locs F hl hR hS h1 h2
  have hts := F.2.2.2.2.2.1
  refine W.objInit F.1 F.2.1 F.2.2.2.2.1 (hts _ hw) (hts _ hw2) (hts _ hw3) rfl (by rw [F.2.2.2.1]; exact hl.1) rfl hd hdp ?_ (kk p e s m args below meth c ls H locs F hl hR hS h1 h2)
  show 2 * 0 + _ + 12 ≤ 64 * r.dp
  omega
end EVA
