/-! ===== more rows, for methods with handlers (printed by wip/whole/rows2.py) ===== -/
section EVH2
variable {G : Gx} {r q : Mr} {hh : Hd} {pc : Nat} {L st : List Value} {h : Hp} {cs ss : Nat} {Post P1 : Res → Hp → Prop}
theorem eh_iload {i : Nat} {x : Int32} (hd : decode r.2.1 pc = .ok (.iload i, 2)) (hL : L[i]? = some (.int x)) (k : EvH G r hh (pc + 2) L (.int x :: st) h cs ss Post) : EvH G r hh pc L st h cs ss Post :=
  fun p e s m args below meth c ls H locs F hl hR hS h1 h2 => lv_iload F.1 F.2.1 hd (hl.get hL (un_int x)) (k p e s m args below meth c ls H locs F hl hR hS h1 h2)
theorem eh_istore {i : Nat} {x : Int32} (hd : decode r.2.1 pc = .ok (.istore i, 2)) (hi : i < r.ml) (k : EvH G r hh (pc + 2) (L.set i (.int x)) st h cs ss Post) : EvH G r hh pc L (.int x :: st) h cs ss Post := by
  intro p e s m args below meth c ls H locs F hl hR hS h1 h2
  obtain ⟨ls', e', h'⟩ := hl.set (v := .int x) hi rfl
  have hexec := F.1
  have hb := F.2.1
  intro T hT X
  obtain ⟨t, a, b⟩ := k p e s m args below meth c ls' H locs F h' hR hS h1 h2 T hT X
  refine ⟨t, ?_, b⟩
  jvm_step X.here [X.here.top, ↓top_set X.here.top, hexec, hb, hd, e']
  exact a
theorem eh_iinc {i : Nat} {x v : Int32} {n : Int} (hd : decode r.2.1 pc = .ok (.iinc i n, 3)) (hn : Int32.ofInt n = v) (hL : L[i]? = some (.int x)) (hi : i < r.ml) (k : EvH G r hh (pc + 3) (L.set i (.int (x + v))) st h cs ss Post) : EvH G r hh pc L st h cs ss Post := by
  intro p e s m args below meth c ls H locs F hl hR hS h1 h2
  subst hn
  have hg := hl.get hL (un_int x)
  obtain ⟨ls', e', h'⟩ := hl.set (v := .int (x + Int32.ofInt n)) hi rfl
  have hexec := F.1
  have hb := F.2.1
  intro T hT X
  obtain ⟨t, a, b⟩ := k p e s m args below meth c ls' H locs F h' hR hS h1 h2 T hT X
  refine ⟨t, ?_, b⟩
  jvm_step X.here [X.here.top, ↓top_set X.here.top, hexec, hb, hd, hg, e']
  exact a
theorem eh_iadd {x y : Int32} (hd : decode r.2.1 pc = .ok (.iadd, 1)) (k : EvH G r hh (pc + 1) L (.int (x + y) :: st) h cs ss Post) : EvH G r hh pc L (.int y :: .int x :: st) h cs ss Post :=
  fun p e s m args below meth c ls H locs F hl hR hS h1 h2 => lv_iadd F.1 F.2.1 hd (k p e s m args below meth c ls H locs F hl hR hS h1 h2)
theorem eh_isub {x y : Int32} (hd : decode r.2.1 pc = .ok (.isub, 1)) (k : EvH G r hh (pc + 1) L (.int (x - y) :: st) h cs ss Post) : EvH G r hh pc L (.int y :: .int x :: st) h cs ss Post :=
  fun p e s m args below meth c ls H locs F hl hR hS h1 h2 => lv_isub F.1 F.2.1 hd (k p e s m args below meth c ls H locs F hl hR hS h1 h2)
theorem eh_iand {x y : Int32} (hd : decode r.2.1 pc = .ok (.iand, 1)) (k : EvH G r hh (pc + 1) L (.int (x &&& y) :: st) h cs ss Post) : EvH G r hh pc L (.int y :: .int x :: st) h cs ss Post :=
  fun p e s m args below meth c ls H locs F hl hR hS h1 h2 => lv_iand F.1 F.2.1 hd (k p e s m args below meth c ls H locs F hl hR hS h1 h2)
theorem eh_bipush {n : Int} {v : Int32} (hd : decode r.2.1 pc = .ok (.bipush n, 2)) (hv : (Int8.ofInt n).toInt32 = v) (k : EvH G r hh (pc + 2) L (.int v :: st) h cs ss Post) : EvH G r hh pc L st h cs ss Post :=
  fun p e s m args below meth c ls H locs F hl hR hS h1 h2 => lv_bipush F.1 F.2.1 hd hv (k p e s m args below meth c ls H locs F hl hR hS h1 h2)
theorem eh_iald {a n : Nat} {i : Int32} {v : Value} (hkd : h.1 a = (101, n)) (hin : vp_in i n) (hv : h.2.1 a i.toNatClampNeg = v) (hd : decode r.2.1 pc = .ok (.iaload, 1)) (kk : EvH G r hh (pc + 1) L (v :: st) h cs ss Post) : EvH G r hh pc L (.int i :: .ref a :: st) h cs ss Post := by
  intro p e s m args below meth c ls H locs F hl hR hS h1 h2
  obtain ⟨cell, q1, q2, q3, q4, q5, q6, q7⟩ := hR.arr (j := 0) hkd
  exact W.iald F.1 F.2.1 q1 q2 q3 (not_out hin q4.1) (by rw [q6 _ (vp_in_lt hin), hv]) rfl rfl hd (kk p e s m args below meth c ls H locs F hl hR hS h1 h2)
theorem eh_alen {a n j : Nat} {v : Int32} (hkd : h.1 a = (101 + j, n)) (hv : n.toInt32 = v) (hd : decode r.2.1 pc = .ok (.arraylength, 1)) (kk : EvH G r hh (pc + 1) L (.int v :: st) h cs ss Post) : EvH G r hh pc L (.ref a :: st) h cs ss Post := by
  intro p e s m args below meth c ls H locs F hl hR hS h1 h2
  obtain ⟨cell, q1, q2, q3, q4, q5, q6, q7⟩ := hR.arr (j := j) hkd
  exact W.alen F.1 F.2.1 q1 q2 (q4.2.1.trans hv) rfl rfl hd (kk p e s m args below meth c ls H locs F hl hR hS h1 h2)
theorem eh_lald {a n : Nat} {i : Int32} {v : Value} (hkd : h.1 a = (104, n)) (hin : vp_in i n) (hv : h.2.1 a i.toNatClampNeg = v) (hd : decode r.2.1 pc = .ok (.laload, 1)) (kk : EvH G r hh (pc + 1) L (v :: st) h cs ss Post) : EvH G r hh pc L (.int i :: .ref a :: st) h cs ss Post := by
  intro p e s m args below meth c ls H locs F hl hR hS h1 h2
  obtain ⟨cell, q1, q2, q3, q4, q5, q6, q7⟩ := hR.arr (j := 3) hkd
  exact W.lald F.1 F.2.1 q1 q2 q3 (not_out hin q4.1) (by rw [q6 _ (vp_in_lt hin), hv]) rfl rfl hd (kk p e s m args below meth c ls H locs F hl hR hS h1 h2)
theorem eh_lcmp {x y : Int64} (hd : decode r.2.1 pc = .ok (.lcmp, 1)) (k : EvH G r hh (pc + 1) L (.int (lg_cmp x y) :: st) h cs ss Post) : EvH G r hh pc L (.long y :: .long x :: st) h cs ss Post :=
  fun p e s m args below meth c ls H locs F hl hR hS h1 h2 => W.lcmp F.1 F.2.1 hd (k p e s m args below meth c ls H locs F hl hR hS h1 h2)
theorem eh_if_ne {x : Int32} {off : Int} {tgt : Nat} (hd : decode r.2.1 pc = .ok (.ifCond .ne off, 3)) (ht : (pc : Int) + off = (tgt : Int)) (kt : ¬ x = 0 → EvH G r hh tgt L st h cs ss Post) (kf : x = 0 → EvH G r hh (pc + 3) L st h cs ss Post) : EvH G r hh pc L (.int x :: st) h cs ss Post :=
  fun p e s m args below meth c ls H locs F hl hR hS h1 h2 => lv_if_ne F.1 F.2.1 hd ht (fun q => kt q p e s m args below meth c ls H locs F hl hR hS h1 h2) (fun q => kf q p e s m args below meth c ls H locs F hl hR hS h1 h2)
theorem eh_icmp_eq {x y : Int32} {off : Int} {tgt : Nat} (hd : decode r.2.1 pc = .ok (.if_icmp .eq off, 3)) (ht : (pc : Int) + off = (tgt : Int)) (kt : x = y → EvH G r hh tgt L st h cs ss Post) (kf : ¬ x = y → EvH G r hh (pc + 3) L st h cs ss Post) : EvH G r hh pc L (.int y :: .int x :: st) h cs ss Post :=
  fun p e s m args below meth c ls H locs F hl hR hS h1 h2 => lv_icmp_eq F.1 F.2.1 hd ht (fun q => kt q p e s m args below meth c ls H locs F hl hR hS h1 h2) (fun q => kf q p e s m args below meth c ls H locs F hl hR hS h1 h2)
theorem eh_icmp_gt {x y : Int32} {off : Int} {tgt : Nat} (hd : decode r.2.1 pc = .ok (.if_icmp .gt off, 3)) (ht : (pc : Int) + off = (tgt : Int)) (kt : y < x → EvH G r hh tgt L st h cs ss Post) (kf : ¬ y < x → EvH G r hh (pc + 3) L st h cs ss Post) : EvH G r hh pc L (.int y :: .int x :: st) h cs ss Post :=
  fun p e s m args below meth c ls H locs F hl hR hS h1 h2 => lv_icmp_gt F.1 F.2.1 hd ht (fun q => kt q p e s m args below meth c ls H locs F hl hR hS h1 h2) (fun q => kf q p e s m args below meth c ls H locs F hl hR hS h1 h2)
theorem eh_tabIn {dflt lo hi : Int} {offs : Array Int} {len : Nat} {x : Int32} {off : Int} {tgt : Nat} (hd : decode r.2.1 pc = .ok (.tableswitch dflt lo hi offs, len)) (ha : ¬ x.toInt < lo) (hb : ¬ hi < x.toInt) (ho : offs[(x.toInt - lo).toNat]? = some off) (ht : (pc : Int) + off = (tgt : Int)) (k : EvH G r hh tgt L st h cs ss Post) : EvH G r hh pc L (.int x :: st) h cs ss Post :=
  fun p e s m args below meth c ls H locs F hl hR hS h1 h2 => lv_tableIn F.1 F.2.1 hd ha hb ho ht (k p e s m args below meth c ls H locs F hl hR hS h1 h2)
theorem eh_tabOut {dflt lo hi : Int} {offs : Array Int} {len : Nat} {x : Int32} {tgt : Nat} (hd : decode r.2.1 pc = .ok (.tableswitch dflt lo hi offs, len)) (hx : x.toInt < lo ∨ hi < x.toInt) (ht : (pc : Int) + dflt = (tgt : Int)) (k : EvH G r hh tgt L st h cs ss Post) : EvH G r hh pc L (.int x :: st) h cs ss Post :=
  fun p e s m args below meth c ls H locs F hl hR hS h1 h2 => lv_tableOut F.1 F.2.1 hd hx ht (k p e s m args below meth c ls H locs F hl hR hS h1 h2)
theorem eh_new {ci idx N : Nat} {C : String} {T : u_T} {f : Nat → Value} (hc : cls[ci]? = some (C, T, N)) (hw : Cond.classLink r.1.cls idx C ∈ lw_good) (hi : Cond.instantiable C N ∈ lw_good) (hin : Cond.initialized C ∈ lw_good)
    (hf : ∀ k, k < N → ∃ ty, parseFieldDescriptor (T k).2.2.1 = some ty ∧ f k = defaultValue ty) (hd : decode r.2.1 pc = .ok (.new idx, 3)) (hcs : cs + 1 ≤ r.mc) (hss : ss + N ≤ r.ms)
    (kk : EvH G r hh (pc + 3) L (.ref h.2.2 :: st) (hnew h (ci + 1, N) f) (cs + 1) (ss + N) Post) : EvH G r hh pc L st h cs ss Post := by
  intro p e s m args below meth c ls H locs F hl hR hS h1 h2
  have hts := F.2.2.2.2.2.1
  have hK := F.2.2.2.2.2.2.2.2.1.2.1 ci _ hc
  refine W.newcK F.1 F.2.1 F.2.2.2.2.1 (hts _ hw) (hts _ hi) (hts _ hin) rfl hd hcs hss hK.2.1 hR.1 fun H' kC g1 g2 g3 g4 => ?_
  have ho : t_OB h.2.2 (G.2.1.1 ci) N (G.2.1.2 ci) H' f := by
    refine ⟨_, g2, rfl, rfl, fun k hk => ?_⟩
    obtain ⟨cf, kf, fi, fd, hfi, he⟩ := hK.1 k hk
    obtain ⟨ty, hty, hfk⟩ := hf k hk
    have h3 := (u_facts hK.2.1 g1 (u_lays hts (cls_ok hc).1 hk) hfi).2.2
    rw [(State.fieldFound?_type hfi hty).2] at h3
    rw [← he, hfk]
    exact k2_blank h3
  refine kk p e s m args below meth c ls H' locs F hl (hR.fresh (by rw [g3, hR.1]) (fun b hb => g4 b (by rw [← hR.1]; exact hb)) ?_) ⟨Nat.le_trans hS.1 (by rw [g3, hR.1]; omega), fun q q1 q2 => (g4 q (by rw [← hR.1]; exact Nat.lt_of_lt_of_le q1 hS.1)).trans (hS.2.1 q q1 q2), hS.2.2⟩ hcs hss
  rw [hR.1]
  refine ⟨fun _ _ => ⟨(C, T, N), ?_, rfl, ?_⟩, fun h9 => ?_⟩
  · show cls[ci + 1 - 1]? = _
    rw [Nat.add_sub_cancel]; exact hc
  · show t_OB h.2.2 (G.2.1.1 (ci + 1 - 1)) N (G.2.1.2 (ci + 1 - 1)) H' f
    rw [Nat.add_sub_cancel]; exact ho
  · have : 100 < ci + 1 := h9
    have := cls_lt hc
    omega
theorem eh_newa {j : Nat} {at_ : ArrayType} {n : Int32} {N : Nat} {v : Value} (hw : Cond.arrayClass (newarray.typeOf at_) ∈ lw_good) (hj : newarray.typeOf at_ = aty j) (hj4 : j < 4) (hv : defaultValue (aty j) = v) (hn : ¬ n < 0) (hN : n.toNatClampNeg = N) (hb : N * componentBytes (aty j) ≤ 536870912)
    (hd : decode r.2.1 pc = .ok (.newarray at_, 2)) (hcs : cs + 1 ≤ r.mc) (hss : ss + N ≤ r.ms)
    (kk : EvH G r hh (pc + 2) L (.ref h.2.2 :: st) (hnew h (101 + j, N) (fun _ => v)) (cs + 1) (ss + N) Post) : EvH G r hh pc L (.int n :: st) h cs ss Post := by
  intro p e s m args below meth c ls H locs F hl hR hS h1 h2
  have hts := F.2.2.2.2.2.1
  have hN31 : N < 2 ^ 31 := by
    rw [← hN]
    have := n.toInt_lt
    have e : (n.toNatClampNeg : Int) = max n.toInt 0 := by
      show ((n.toInt.toNat : Nat) : Int) = _
      omega
    omega
  refine va_newaK F.1 F.2.1 (hts _ hw) rfl hd rfl hn hN (by rw [hj]; exact hb) hcs hss hR.1 fun H' cA g1 g2 g3 g4 g5 => ?_
  refine kk p e s m args below meth c ls H' locs F hl (hR.fresh (by rw [g2, hR.1]) (fun b hb => g3 b (by rw [← hR.1]; exact hb)) ?_) ⟨Nat.le_trans hS.1 (by rw [g2, hR.1]; omega), fun q q1 q2 => (g3 q (by rw [← hR.1]; exact Nat.lt_of_lt_of_le q1 hS.1)).trans (hS.2.1 q q1 q2), hS.2.2⟩ hcs hss
  rw [hR.1]
  refine ⟨fun h8 h9 => ?_, fun _ => ⟨_, g1, ?_, (fun z => nomatch (show VmData.none = VmData.unknown from z)), szk.of (arrV_size _ _ _), hN31, fun i hi => ?_, fun _ => ?_⟩⟩
  · have : 101 + j ≤ 100 := h9
    omega
  · show s.isArrayOf _ (aty (101 + j - 101))
    rw [show 101 + j - 101 = j by omega, ← hj]
    exact g4 _ _
  · rw [arrV_read _ _ hi, hj, hv]
  · show va_RA s cA (aty (101 + j - 101))
    rw [show 101 + j - 101 = j by omega]
    rw [hj] at g5
    have hcase : j = 0 ∨ j = 1 ∨ j = 2 ∨ j = 3 := by omega
    rcases hcase with rfl | rfl | rfl | rfl <;> exact g5
theorem eh_dup {v : Value} (hd : decode r.2.1 pc = .ok (.dup, 1)) (hv : v.category = 1) (k : EvH G r hh (pc + 1) L (v :: v :: st) h cs ss Post) : EvH G r hh pc L (v :: st) h cs ss Post :=
  fun p e s m args below meth c ls H locs F hl hR hS h1 h2 => lv_dup F.1 F.2.1 hd hv (k p e s m args below meth c ls H locs F hl hR hS h1 h2)
theorem EvH.kill (d : Nat) (k : EvH G r hh pc (L.set d un) st h cs ss Post) : EvH G r hh pc L st h cs ss Post :=
  fun p e s m args below meth c ls H locs F hl hR hS h1 h2 => k p e s m args below meth c ls H locs F (hl.kill d) hR hS h1 h2
/-- behind a call that does not throw -/
theorem runH {p : Program} {e : Env} {s : State} {m : MethodId} {args aa : Array Value} {below : List Frame} {meth : Method} {c : Code} {ls : Array Slot} {H : Heap} {locs : List Loc} {st0 : List Value} (F : FrH G r hh p s m args meth c) (hl : LR r.ml ls L) (hS : va_S (nw G) s.heap H locs)
    (hr : vx_Run p G.1 e r.rm s m args below meth c H locs cs ss q.mc q.ms (F0 m pc ls st0) st (QcP G P1 aa) (XCP G P1) (nw G)) (hc : cs + q.mc ≤ r.mc) (hs : ss + q.ms ≤ r.ms)
    (k1 : ∀ v h', P1 (.inl v) h' → EvH G r hh (pc + 3) L (v.toList ++ st) h' (cs + q.mc) (ss + q.ms) Post) (k2 : ∀ E h', ¬ P1 (.inr E) h') :
    W p G.1 e r.rm s m args below meth c H locs cs ss (vx_MQ below (QcP G Post) (XCP G Post) args s r.mc r.ms (nw G)) (F0 m pc ls st0) := by
  intro T hT X
  rcases hr T hT X with ⟨v, st₀, t, T', Lc, h0, X', hL, e1, e2, ⟨v', h', hv, hP, hR', hF⟩, go⟩ | ⟨a, st₀, t, T', Lc, E, ce, h0, X', hL, e1, e2, ⟨h', hP, hR', hF⟩, hce, hcv, hcl, go⟩
  · cases hv
    obtain ⟨z, k⟩ := hF
    rw [h0] at z k
    obtain ⟨t2, a1, b1⟩ := k1 v h' hP p e s m args below meth c ls T'.heap (locs ++ Lc) F hl (by rw [e1]; exact hR'.moved (by rw [← e2]; exact X'.warmed.alike.symm))
      ⟨Nat.le_trans hS.1 (by rw [e1]; exact z), fun b y1 y2 => by rw [e1, k b (Nat.lt_of_lt_of_le y1 hS.1) y2]; exact hS.2.1 b y1 y2, fun b hb => by
        rcases List.mem_append.mp hb with y | y
        · exact hS.2.2 b y
        · exact hL b y⟩ hc hs T' rfl X'
    exact ⟨t2, go t2 a1, b1⟩
  · exact absurd hP (k2 E h')
theorem eh_callN {idx b : Nat} {As : List Value} (hM : EvM G q (.ref b :: As) h P1) (hno : ∀ E h', ¬ P1 (.inr E) h') (hcode : Cond.code q.1 q.2.1 q.ml q.rt ∈ lw_good) (hlink : Cond.methodLink r.1.cls idx q.1 ∈ lw_good) (hini : Cond.initialized q.1.cls ∈ lw_good) (hin : Cond.instanceMethod q.1 ∈ lw_good) (hsel : Cond.selects q.1.cls q.1 q.1 ∈ lw_good)
    (hpl : plainB q.1 As.length = true) (hdp : q.dp + 1 ≤ r.dp) (hml : q.ml ≤ 45) (hrcv : rcv G h q.1.cls b) (hst : (st.map fun v => v.category).sum ≤ 8) (hd : decode r.2.1 pc = .ok (.invokevirtual idx, 3)) (hc : cs + q.mc ≤ r.mc) (hs : ss + q.ms ≤ r.ms)
    (k1 : ∀ v h', P1 (.inl v) h' → EvH G r hh (pc + 3) L (v.toList ++ st) h' (cs + q.mc) (ss + q.ms) Post) : EvH G r hh pc L (As.reverse ++ .ref b :: st) h cs ss Post := by
  intro p e s m args below meth c ls H locs F hl hR hS h1 h2
  have hts := F.2.2.2.2.2.1
  have hg := F.2.2.2.2.2.2.2.2.1
  exact runH F hl hS (q := q) (st0 := As.reverse ++ .ref b :: st) (st := st) (vx_runV (C := q.1.cls) (cc := r.2.1) (nL := r.ml) (index := idx) (bytes := q.2.1) (maxL := q.ml) (ret := q.rt) (rm := q.rm) (ws := q.ws) (n := As.length) (b := b) (As := As) ⟨F.1, F.2.1, F.2.2.2.1, F.2.2.2.2.1, hts⟩ hM
    ⟨callB_of As.length hts (ws_good hcode) rfl rfl rfl (hts _ hini) (hts _ hlink) (plain_ok hpl) (room_ok hdp hml), hts _ hin, hts _ hsel⟩
    ⟨PcP.blind G _ h, hrcv.cell hg hR hS, PcP.pre hg hR hS⟩ rfl rfl hl.1 rfl (by show 2 * 0 + _ ≤ 8; omega) hd ⟨hc, hs⟩) hc hs k1 hno
theorem eh_callI {idx b : Nat} {As : List Value} (hM : EvM G q (.ref b :: As) h P1) (hno : ∀ E h', ¬ P1 (.inr E) h') (hrt : q.rt = none) (hcode : Cond.code q.1 q.2.1 q.ml none ∈ lw_good) (hlink : Cond.methodLink r.1.cls idx q.1 ∈ lw_good) (hini : Cond.initialized q.1.cls ∈ lw_good) (hin : Cond.instanceMethod q.1 ∈ lw_good) (hnm : q.1.name = "<init>")
    (hpl : plainB q.1 As.length = true) (hdp : q.dp + 1 ≤ r.dp) (hml : q.ml ≤ 45) (hst : (st.map fun v => v.category).sum ≤ 8) (hd : decode r.2.1 pc = .ok (.invokespecial idx, 3)) (hc : cs + q.mc ≤ r.mc) (hs : ss + q.ms ≤ r.ms)
    (k1 : ∀ v h', P1 (.inl v) h' → EvH G r hh (pc + 3) L (v.toList ++ st) h' (cs + q.mc) (ss + q.ms) Post) : EvH G r hh pc L (As.reverse ++ .ref b :: st) h cs ss Post := by
  intro p e s m args below meth c ls H locs F hl hR hS h1 h2
  have hts := F.2.2.2.2.2.1
  have hg := F.2.2.2.2.2.2.2.2.1
  have hcode' : Cond.code q.1 q.2.1 q.ml q.rt ∈ lw_good := by rw [hrt]; exact hcode
  exact runH F hl hS (q := q) (st0 := As.reverse ++ .ref b :: st) (st := st) (vx_of_va (va_runI (cc := r.2.1) (nL := r.ml) (index := idx) (bytes := q.2.1) (maxL := q.ml) (rm := q.rm) (ws := q.ws) (n := As.length) (b := b) (As := As) ⟨F.1, F.2.1, F.2.2.2.1, F.2.2.2.2.1, hts⟩ (met_of_vx hM (fun E st t => fun ⟨h', z, _⟩ => hno E h' z))
    ⟨callB_of As.length hts (ws_good hcode') (by show Cond.code q.1 q.2.1 q.ml q.rt :: lw_good = _; rw [hrt]) rfl rfl (hts _ hini) (hts _ hlink) (plain_ok hpl) (room_ok hdp hml), hnm, hts _ hin⟩
    ⟨PcP.blind G _ h, PcP.pre hg hR hS⟩ rfl rfl hl.1 rfl (by show 2 * 0 + _ ≤ 8; omega) hd ⟨hc, hs⟩)) hc hs k1 hno
theorem eh_callS {hq : Hd} {idx : Nat} {As : List Value} (hM : EvMH G q hq As h P1) (hno : ∀ E h', ¬ P1 (.inr E) h') (hcode : Cond.codeWith q.1 q.2.1 q.ml q.rt hq ∈ lw_good) (hlink : Cond.methodLink r.1.cls idx q.1 ∈ lw_good) (hini : Cond.initialized q.1.cls ∈ lw_good) (hsta : Cond.static q.1 ∈ lw_good)
    (hpl : plainB q.1 As.length = true) (hdp : q.dp + 1 ≤ r.dp) (hml : q.ml ≤ 45) (hst : (st.map fun v => v.category).sum ≤ 8) (hd : decode r.2.1 pc = .ok (.invokestatic idx, 3)) (hc : cs + q.mc ≤ r.mc) (hs : ss + q.ms ≤ r.ms)
    (k1 : ∀ v h', P1 (.inl v) h' → EvH G r hh (pc + 3) L (v.toList ++ st) h' (cs + q.mc) (ss + q.ms) Post) : EvH G r hh pc L (As.reverse ++ st) h cs ss Post := by
  intro p e s m args below meth c ls H locs F hl hR hS h1 h2
  have hts := F.2.2.2.2.2.1
  have hgo : GoodIn lw_good (va_wsS r.1.cls idx q.1 (q.wsH hq)) := good_in (fun w hw => by
    rcases List.mem_append.mp hw with hw | hw
    · simp only [List.mem_cons, List.not_mem_nil, or_false] at hw
      rcases hw with rfl | rfl | rfl
      · exact hlink
      · exact hsta
      · exact hini
    · rcases List.mem_cons.mp hw with rfl | hw
      · exact hcode
      · exact hw)
  exact runH F hl hS (q := q) (st0 := As.reverse ++ st) (st := st) (vx_runSX (cc := r.2.1) (nL := r.ml) (index := idx) (bytes := q.2.1) (maxL := q.ml) (ret := q.rt) (hh := hq) (rm := q.rm) (ws := q.wsH hq) (n := As.length) (As := As) ⟨F.1, F.2.1, F.2.2.2.1, F.2.2.2.2.1, hts⟩ hM
    (vx_cwSW (ws' := lw_good) As.length hts hgo rfl rfl rfl (plain_ok hpl) (room_ok hdp hml))
    ⟨PcP.blind G _ h, PcP.pre F.2.2.2.2.2.2.2.2.1 hR hS⟩ rfl rfl hl.1 rfl (by show 2 * 0 + _ ≤ 8; omega) hd ⟨hc, hs⟩) hc hs k1 hno
end EVH2
