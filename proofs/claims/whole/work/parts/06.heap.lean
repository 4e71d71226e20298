/-! ===== rows that read and write the heap ===== -/
def hset (h : Hp) (a k : Nat) (v : Value) : Hp := (h.1, fun b j => if b = a ∧ j = k then v else h.2.1 b j, h.2.2)
def hnew (h : Hp) (q : Nat × Nat) (f : Nat → Value) : Hp := (fun b => if b = h.2.2 then q else h.1 b, fun b j => if b = h.2.2 then f j else h.2.1 b j, h.2.2 + 1)
theorem hset_ne {h : Hp} {a k b : Nat} {v : Value} (hb : b ≠ a) : (hset h a k v).2.1 b = h.2.1 b := by
  funext j
  simp [hset, hb]
theorem cok.kept {G : Gx} {U : State} {H H1 : Heap} {a : Nat} {q : Nat × Nat} {f : Nat → Value} (hq : H1[a]? = H[a]?) (h : cok G U H a q f) : cok G U H1 a q f := by
  refine ⟨fun h1 h2 => ?_, fun h1 => ?_⟩
  · obtain ⟨r, e1, e2, e3⟩ := h.1 h1 h2
    exact ⟨r, e1, e2, e3.kept hq⟩
  · obtain ⟨cell, h2, h3⟩ := h.2 h1
    exact ⟨cell, by rw [hq]; exact h2, h3⟩
theorem Rel.obj {G : Gx} {h : Hp} {U : State} {H : Heap} (hR : Rel G h U H) {a ci N : Nat} {C : String} {T : u_T} (hc : cls[ci]? = some (C, T, N)) (hkd : (h.1 a).1 = ci + 1) (hci : ci < 100) : t_OB a (G.2.1.1 ci) N (G.2.1.2 ci) H (h.2.1 a) := by
  obtain ⟨r, e1, e2, e3⟩ := (hR.2.2 a).1 (by omega) (by omega)
  rw [hkd, Nat.add_sub_cancel] at e1 e3
  cases hc.symm.trans e1
  exact e3
theorem Rel.arr {G : Gx} {h : Hp} {U : State} {H : Heap} (hR : Rel G h U H) {a j n : Nat} (hkd : h.1 a = (101 + j, n)) : ∃ cell : Cell, H[a]? = some cell ∧ U.isArrayOf cell (aty j) ∧ cell.vm ≠ .unknown ∧ szk G a (101 + j) n cell.slots.size ∧ n < 2 ^ 31 ∧ (∀ i, i < n → cell.slots[i]? = some (h.2.1 a i)) ∧ (G.n0 ≤ a → va_RA U cell.cls (aty j)) := by
  have := (hR.2.2 a).2 (by rw [hkd]; show 100 < 101 + j; omega)
  rw [hkd, show (101 + j, n).1 - 101 = j from by show 101 + j - 101 = j; omega] at this
  exact this
theorem Rel.putO {G : Gx} {h : Hp} {U : State} {H H1 : Heap} (hR : Rel G h U H) {a ci N k : Nat} {C : String} {T : u_T} {v : Value} (hc : cls[ci]? = some (C, T, N)) (hkd : (h.1 a).1 = ci + 1) (hci : ci < 100) (hsz : H1.size = H.size) (hne : ∀ q, q ≠ a → H1[q]? = H[q]?)
    (hO : t_OB a (G.2.1.1 ci) N (G.2.1.2 ci) H1 (updV (h.2.1 a) k v)) : Rel G (hset h a k v) U H1 := by
  refine ⟨hsz.trans hR.1, hR.2.1, fun b => ?_⟩
  by_cases hb : b = a
  · subst hb
    obtain ⟨r, e1, e2, e3⟩ := (hR.2.2 b).1 (by omega) (by omega)
    rw [hkd, Nat.add_sub_cancel] at e1
    cases hc.symm.trans e1
    refine ⟨fun _ _ => ⟨(C, T, N), ?_, e2, ?_⟩, fun h9 => ?_⟩
    · show cls[(h.1 b).1 - 1]? = _
      rw [hkd, Nat.add_sub_cancel]; exact hc
    · show t_OB b (G.2.1.1 ((h.1 b).1 - 1)) N (G.2.1.2 ((h.1 b).1 - 1)) H1 _
      rw [hkd, Nat.add_sub_cancel]
      refine hO.to (fun j _ => ?_)
      show (if j = k then v else h.2.1 b j) = (if b = b ∧ j = k then v else h.2.1 b j)
      simp
    · have : 100 < (h.1 b).1 := h9
      omega
  · rw [hset_ne hb]
    exact (hR.2.2 b).kept (hne b hb)
theorem Rel.putA {G : Gx} {h : Hp} {U : State} {H H1 : Heap} (hR : Rel G h U H) {a j n k : Nat} {v : Value} {cell : Cell} (hkd : h.1 a = (101 + j, n)) (hsz : H1.size = H.size) (hne : ∀ q, q ≠ a → H1[q]? = H[q]?)
    (hcell : H1[a]? = some cell) (harr : U.isArrayOf cell (aty j)) (hvm : cell.vm ≠ .unknown) (hs : cell.slots.size = n) (hn : n < 2 ^ 31) (hv : ∀ i, i < n → cell.slots[i]? = some (updV (h.2.1 a) k v i)) (hra : G.n0 ≤ a → va_RA U cell.cls (aty j)) : Rel G (hset h a k v) U H1 := by
  refine ⟨hsz.trans hR.1, hR.2.1, fun b => ?_⟩
  by_cases hb : b = a
  · subst hb
    refine ⟨fun h8 h9 => ?_, fun _ => ⟨cell, hcell, ?_, hvm, ?_, ?_, fun i hi => ?_, fun z => ?_⟩⟩
    · have : (h.1 b).1 ≤ 100 := h9
      rw [hkd] at this
      have : 101 + j ≤ 100 := this
      omega
    · show U.isArrayOf cell (aty ((h.1 b).1 - 101))
      rw [hkd, show (101 + j, n).1 - 101 = j from by show 101 + j - 101 = j; omega]
      exact harr
    · show szk G b (h.1 b).1 (h.1 b).2 cell.slots.size
      rw [hkd]; exact szk.of hs
    · show (h.1 b).2 < _
      rw [hkd]; exact hn
    · have hi' : i < (h.1 b).2 := hi
      rw [hkd] at hi'
      rw [hv i hi']
      show some (if i = k then v else h.2.1 b i) = some (if b = b ∧ i = k then v else h.2.1 b i)
      simp
    · show va_RA U cell.cls (aty ((h.1 b).1 - 101))
      rw [hkd, show (101 + j, n).1 - 101 = j from by show 101 + j - 101 = j; omega]
      exact hra z
  · rw [hset_ne hb]
    exact (hR.2.2 b).kept (hne b hb)
theorem Rel.fresh {G : Gx} {h : Hp} {U : State} {H H1 : Heap} (hR : Rel G h U H) {q : Nat × Nat} {f : Nat → Value} (hsz : H1.size = H.size + 1) (hne : ∀ b, b < H.size → H1[b]? = H[b]?) (hq : cok G U H1 H.size q f) : Rel G (hnew h q f) U H1 := by
  refine ⟨by rw [hsz, hR.1]; rfl, by show G.n0 ≤ h.2.2 + 1; have := hR.2.1; omega, fun b => ?_⟩
  by_cases hb : b = h.2.2
  · have e1 : (hnew h q f).1 b = q := by simp [hnew, hb]
    have e2 : (hnew h q f).2.1 b = f := by funext j; simp [hnew, hb]
    rw [e1, e2, hb, ← hR.1]
    exact hq
  · have e1 : (hnew h q f).1 b = h.1 b := by simp [hnew, hb]
    have e2 : (hnew h q f).2.1 b = h.2.1 b := by funext j; simp [hnew, hb]
    rw [e1, e2]
    by_cases hlt : b < H.size
    · exact (hR.2.2 b).kept (hne b hlt)
    · have hnone : H[b]? = none := by simpa using Nat.le_of_not_lt hlt
      refine ⟨fun h8 h9 => ?_, fun h9 => ?_⟩
      · obtain ⟨r, -, -, cell, z, -⟩ := (hR.2.2 b).1 h8 h9
        rw [hnone] at z; cases z
      · obtain ⟨cell, z, -⟩ := (hR.2.2 b).2 h9
        rw [hnone] at z; cases z
/-- what programs decide of the table -/
def clsB (q : vw_C) : Bool := (u_ws q.1 q.2.1 q.2.2).all (fun w => decide (w ∈ lw_good)) && (List.range q.2.2).all (fun a => (parseFieldDescriptor (q.2.1 a).2.2.1).isSome && (List.range q.2.2).all (fun b => a == b || decide ((q.2.1 a).2.1 ≠ (q.2.1 b).2.1)))
set_option maxRecDepth 100000 in
theorem clsB_ok : cls.all clsB = true := by decide +kernel
theorem cls_ok {k : Nat} {q : vw_C} (h : cls[k]? = some q) : (∀ w ∈ u_ws q.1 q.2.1 q.2.2, w ∈ lw_good) ∧ (∀ a, a < q.2.2 → ∃ ty, parseFieldDescriptor (q.2.1 a).2.2.1 = some ty) ∧ ∀ a, a < q.2.2 → ∀ b, b < q.2.2 → a ≠ b → (q.2.1 a).2.1 ≠ (q.2.1 b).2.1 := by
  have h1 := List.all_eq_true.mp clsB_ok q (List.mem_of_getElem? h)
  simp only [clsB, Bool.and_eq_true, List.all_eq_true, decide_eq_true_eq, List.mem_range, Bool.or_eq_true, beq_iff_eq] at h1
  refine ⟨h1.1, fun a ha => Option.isSome_iff_exists.mp (h1.2 a ha).1, fun a ha b hb hne => ?_⟩
  rcases (h1.2 a ha).2 b hb with z | z
  · exact absurd z hne
  · exact z
theorem cls_lt {k : Nat} {q : vw_C} (h : cls[k]? = some q) : k < 100 := by
  have := (List.getElem?_eq_some_iff.mp h).1
  have e : cls.length = 11 := rfl
  omega
section EVH
variable {G : Gx} {r : Mr} {pc : Nat} {L st : List Value} {h : Hp} {cs ss : Nat} {Post : Res → Hp → Prop}
theorem ev_getf {ci k idx N a : Nat} {C : String} {T : u_T} {v : Value} (hc : cls[ci]? = some (C, T, N)) (hk : k < N) (hw : Cond.fieldLink r.1.cls idx (T k).1 (T k).2.1 (T k).2.2.1 ∈ lw_good) (hd : decode r.2.1 pc = .ok (.getfield idx, 3)) (hkd : (h.1 a).1 = ci + 1) (hv : h.2.1 a k = v)
    (kk : Ev G r (pc + 3) L (v :: st) h cs ss Post) : Ev G r pc L (.ref a :: st) h cs ss Post := by
  intro p e s m args below meth c ls H locs F hl hR hS h1 h2
  obtain ⟨cell, q1, q2, q3, q4⟩ := hR.obj hc hkd (cls_lt hc)
  obtain ⟨hSl, hfc, kC, hkC, hkind⟩ := F.2.2.2.2.2.2.2.2.1.2.1 ci _ hc
  obtain ⟨cf, kf, fi, f, hi, hsl⟩ := hSl k hk
  have hts := F.2.2.2.2.2.1
  refine W.getf F.1 F.2.1 F.2.2.2.2.1 (hts _ hw) hi (u_facts hfc hkC (u_lays hts (cls_ok hc).1 hk) hi).1 q1 (by rw [q3]; exact fun h => by cases h) (v := v) ?_ rfl rfl hd (kk p e s m args below meth c ls H locs F hl hR hS h1 h2)
  rw [hsl, q4 k hk, hv]
theorem cls_apart {s : State} {args : Array Value} (hts : ∀ w ∈ lw_good, w.before args s = true) (hG : Gok G s) {ci N : Nat} {C : String} {T : u_T} (hc : cls[ci]? = some (C, T, N)) : ∀ x y, x < N → y < N → x ≠ y → (G.2.1.2 ci) x ≠ (G.2.1.2 ci) y := by
  intro x y hx hy hne
  obtain ⟨hS, -⟩ := hG.2.1 ci _ hc
  obtain ⟨_, _, _, fa, hia, ea⟩ := hS x hx
  obtain ⟨_, _, _, fb, hib, eb⟩ := hS y hy
  obtain ⟨tx, htx⟩ := (cls_ok hc).2.1 x hx
  obtain ⟨ty, hty⟩ := (cls_ok hc).2.1 y hy
  rw [← ea, ← eb]
  refine u_apart (u_lays hts (cls_ok hc).1 hx) (u_lays hts (cls_ok hc).1 hy) hia hib ?_
  rw [(State.fieldFound?_type hia htx).1, (State.fieldFound?_type hib hty).1]
  exact (cls_ok hc).2.2 x hx y hy hne
theorem ev_putf {ci k idx N a : Nat} {C : String} {T : u_T} {v : Value} {ty : FieldType} (hc : cls[ci]? = some (C, T, N)) (hk : k < N) (hw : Cond.fieldLink r.1.cls idx (T k).1 (T k).2.1 (T k).2.2.1 ∈ lw_good) (hfin : (T k).2.2.2 = false) (hty : parseFieldDescriptor (T k).2.2.1 = some ty) (hn : narrow ty v = v) (hf : fits ty v = true) (hd : decode r.2.1 pc = .ok (.putfield idx, 3)) (ha : G.n0 ≤ a) (hkd : (h.1 a).1 = ci + 1)
    (kk : Ev G r (pc + 3) L st (hset h a k v) cs ss Post) : Ev G r pc L (v :: .ref a :: st) h cs ss Post := by
  intro p e s m args below meth c ls H locs F hl hR hS h1 h2
  obtain ⟨cell, q1, q2, q3, q4⟩ := hR.obj hc hkd (cls_lt hc)
  have hts := F.2.2.2.2.2.1
  have hap := cls_apart hts F.2.2.2.2.2.2.2.2.1 hc
  obtain ⟨hSl, hfc, kC, hkC, hkind⟩ := F.2.2.2.2.2.2.2.2.1.2.1 ci _ hc
  obtain ⟨cf, kf, fi, f, hi, hsl⟩ := hSl k hk
  have hlay := hts _ ((cls_ok hc).1 _ (u_in_lay hk))
  unfold u_lay at hlay
  rw [if_neg (by rw [hfin]; decide)] at hlay
  have hst := (u_facts hfc hkC (u_lays hts (cls_ok hc).1 hk) hi).1
  have h6 := u_store hfc hkC hkind hlay hi hty hn hf
  refine W.putK F.1 F.2.1 (f := f) ⟨F.2.2.2.2.1, hts _ hw, ⟨_, _, _, hi⟩, hst⟩ (by rw [q2]; exact h6) q1 q3 (by rw [hsl]; exact k2_hasslot (q4 k hk)) rfl rfl hd fun H' e1 e2 e3 => ?_
  rw [hsl] at e1 ⊢
  exact kk p e s m args below meth c ls H' _ F hl (hR.putO hc hkd (cls_lt hc) e2 e3 ⟨_, e1, q2, q3, t_set q4 hap hk v⟩) (hS.put e2 e3 ha) h1 h2
theorem ev_putF {ci k idx N a : Nat} {C : String} {T : u_T} {v : Value} {ty : FieldType} (hc : cls[ci]? = some (C, T, N)) (hk : k < N) (hw : Cond.fieldLink r.1.cls idx (T k).1 (T k).2.1 (T k).2.2.1 ∈ lw_good) (hfin : (T k).2.2.2 = true) (hin : r.1.name = "<init>") (hdecl : (T k).1 = r.1.cls) (hty : parseFieldDescriptor (T k).2.2.1 = some ty) (hn : narrow ty v = v) (hf : fits ty v = true) (hd : decode r.2.1 pc = .ok (.putfield idx, 3)) (ha : G.n0 ≤ a) (hkd : (h.1 a).1 = ci + 1)
    (kk : Ev G r (pc + 3) L st (hset h a k v) cs ss Post) : Ev G r pc L (v :: .ref a :: st) h cs ss Post := by
  intro p e s m args below meth c ls H locs F hl hR hS h1 h2
  obtain ⟨cell, q1, q2, q3, q4⟩ := hR.obj hc hkd (cls_lt hc)
  have hts := F.2.2.2.2.2.1
  have hown := F.2.2.2.2.1
  have hap := cls_apart hts F.2.2.2.2.2.2.2.2.1 hc
  obtain ⟨hSl, hfc, kC, hkC, hkind⟩ := F.2.2.2.2.2.2.2.2.1.2.1 ci _ hc
  obtain ⟨cf, kf, fi, f, hi, hsl⟩ := hSl k hk
  have hlay := hts _ ((cls_ok hc).1 _ (u_in_lay hk))
  unfold u_lay at hlay
  rw [if_pos hfin] at hlay
  have hst := (u_facts hfc hkC (u_lays hts (cls_ok hc).1 hk) hi).1
  have hcf : m.cls = cf := by
    obtain ⟨_, _, c', _, _, _, -, -, hf', -, -, -, hown2, -⟩ := Cond.laysFinal_spec hlay
    have e1 : c' = cf := by have := hi.symm.trans hf'; simp at this; exact this.1.symm
    rw [hdecl] at hown2
    rw [← e1]; exact Option.some.inj (hown.symm.trans hown2)
  have h6 := u_fits hfc hkC hkind (Or.inr hlay) hi hty hn hf
  refine W.putFinK F.1 F.2.1 hown (hts _ hw) hi hst hcf (F.2.2.2.2.2.2.2.1.trans hin) (by rw [q2]; exact h6) q1 q3 (by rw [hsl]; exact k2_hasslot (q4 k hk)) rfl rfl hd fun H' e1 e2 e3 => ?_
  rw [hsl] at e1 ⊢
  exact kk p e s m args below meth c ls H' _ F hl (hR.putO hc hkd (cls_lt hc) e2 e3 ⟨_, e1, q2, q3, t_set q4 hap hk v⟩) (hS.put e2 e3 ha) h1 h2
theorem not_out {i : Int32} {n m : Nat} (hin : vp_in i n) (e : n ≤ m) : ¬ (i < 0 ∨ m ≤ i.toNatClampNeg) := fun z => z.elim (fun y => hin (Or.inl y)) (fun y => hin (Or.inr (Nat.le_trans e y)))
theorem vp_in_lt {i : Int32} {n : Nat} (hin : vp_in i n) : i.toNatClampNeg < n := Nat.lt_of_not_le (fun z => hin (Or.inr z))
theorem ev_iald {a n : Nat} {i : Int32} {v : Value} (hkd : h.1 a = (101, n)) (hin : vp_in i n) (hv : h.2.1 a i.toNatClampNeg = v) (hd : decode r.2.1 pc = .ok (.iaload, 1)) (kk : Ev G r (pc + 1) L (v :: st) h cs ss Post) : Ev G r pc L (.int i :: .ref a :: st) h cs ss Post := by
  intro p e s m args below meth c ls H locs F hl hR hS h1 h2
  obtain ⟨cell, q1, q2, q3, q4, q5, q6, q7⟩ := hR.arr (j := 0) hkd
  exact W.iald F.1 F.2.1 q1 q2 q3 (not_out hin q4.1) (by rw [q6 _ (vp_in_lt hin), hv]) rfl rfl hd (kk p e s m args below meth c ls H locs F hl hR hS h1 h2)
theorem ev_zald {a n : Nat} {i : Int32} {v : Value} (hkd : h.1 a = (102, n)) (hin : vp_in i n) (hv : h.2.1 a i.toNatClampNeg = v) (hd : decode r.2.1 pc = .ok (.baload, 1)) (kk : Ev G r (pc + 1) L (v :: st) h cs ss Post) : Ev G r pc L (.int i :: .ref a :: st) h cs ss Post := by
  intro p e s m args below meth c ls H locs F hl hR hS h1 h2
  obtain ⟨cell, q1, q2, q3, q4, q5, q6, q7⟩ := hR.arr (j := 1) hkd
  exact W.zald F.1 F.2.1 q1 q2 q3 (not_out hin q4.1) (by rw [q6 _ (vp_in_lt hin), hv]) rfl rfl hd (kk p e s m args below meth c ls H locs F hl hR hS h1 h2)
theorem ev_bald {a n : Nat} {i : Int32} {v : Value} (hkd : h.1 a = (103, n)) (hin : vp_in i n) (hv : h.2.1 a i.toNatClampNeg = v) (hd : decode r.2.1 pc = .ok (.baload, 1)) (kk : Ev G r (pc + 1) L (v :: st) h cs ss Post) : Ev G r pc L (.int i :: .ref a :: st) h cs ss Post := by
  intro p e s m args below meth c ls H locs F hl hR hS h1 h2
  obtain ⟨cell, q1, q2, q3, q4, q5, q6, q7⟩ := hR.arr (j := 2) hkd
  exact W.bald F.1 F.2.1 q1 q2 q3 (not_out hin q4.1) (by rw [q6 _ (vp_in_lt hin), hv]) rfl rfl hd (kk p e s m args below meth c ls H locs F hl hR hS h1 h2)
theorem ev_lald {a n : Nat} {i : Int32} {v : Value} (hkd : h.1 a = (104, n)) (hin : vp_in i n) (hv : h.2.1 a i.toNatClampNeg = v) (hd : decode r.2.1 pc = .ok (.laload, 1)) (kk : Ev G r (pc + 1) L (v :: st) h cs ss Post) : Ev G r pc L (.int i :: .ref a :: st) h cs ss Post := by
  intro p e s m args below meth c ls H locs F hl hR hS h1 h2
  obtain ⟨cell, q1, q2, q3, q4, q5, q6, q7⟩ := hR.arr (j := 3) hkd
  exact W.lald F.1 F.2.1 q1 q2 q3 (not_out hin q4.1) (by rw [q6 _ (vp_in_lt hin), hv]) rfl rfl hd (kk p e s m args below meth c ls H locs F hl hR hS h1 h2)
theorem aty_ref {j : Nat} (hj : 4 ≤ j) : (aty j).isReference = true := by
  unfold aty
  split <;> first | omega | rfl
theorem ev_aald {a n j : Nat} {i : Int32} {v : Value} (hj : 4 ≤ j) (hkd : h.1 a = (101 + j, n)) (hin : vp_in i n) (hv : h.2.1 a i.toNatClampNeg = v) (hd : decode r.2.1 pc = .ok (.aaload, 1)) (kk : Ev G r (pc + 1) L (v :: st) h cs ss Post) : Ev G r pc L (.int i :: .ref a :: st) h cs ss Post := by
  intro p e s m args below meth c ls H locs F hl hR hS h1 h2
  obtain ⟨cell, q1, q2, q3, q4, q5, q6, q7⟩ := hR.arr (j := j) hkd
  exact W.aald F.1 F.2.1 q1 q2 (aty_ref hj) q3 (not_out hin q4.1) (by rw [q6 _ (vp_in_lt hin), hv]) rfl rfl hd (kk p e s m args below meth c ls H locs F hl hR hS h1 h2)
theorem ev_alen {a n j : Nat} {v : Int32} (hkd : h.1 a = (101 + j, n)) (hv : n.toInt32 = v) (hd : decode r.2.1 pc = .ok (.arraylength, 1)) (kk : Ev G r (pc + 1) L (.int v :: st) h cs ss Post) : Ev G r pc L (.ref a :: st) h cs ss Post := by
  intro p e s m args below meth c ls H locs F hl hR hS h1 h2
  obtain ⟨cell, q1, q2, q3, q4, q5, q6, q7⟩ := hR.arr (j := j) hkd
  exact W.alen F.1 F.2.1 q1 q2 (q4.2.1.trans hv) rfl rfl hd (kk p e s m args below meth c ls H locs F hl hR hS h1 h2)
theorem set_get {cell : Cell} {k n : Nat} {v : Value} {f : Nat → Value} (hs : cell.slots.size = n) (hk : k < n) (hv : ∀ i, i < n → cell.slots[i]? = some (f i)) : ∀ i, i < n → (cell.setSlot k v).slots[i]? = some (updV f k v i) := by
  intro i hi
  by_cases hik : i = k
  · subst hik
    simp [Cell.setSlot, updV, hs, hi]
  · simp [Cell.setSlot, updV, hik, Array.getElem?_setIfInBounds, Ne.symm hik, hv i hi]
theorem isArr_set {U : State} {cell : Cell} {ty : FieldType} {k : Nat} {v : Value} (h : U.isArrayOf cell ty) : U.isArrayOf (cell.setSlot k v) ty := h
theorem ev_iast {a n : Nat} {i x : Int32} (ha : G.n0 ≤ a) (hkd : h.1 a = (101, n)) (hin : vp_in i n) (hd : decode r.2.1 pc = .ok (.iastore, 1)) (kk : Ev G r (pc + 1) L st (hset h a i.toNatClampNeg (.int x)) cs ss Post) : Ev G r pc L (.int x :: .int i :: .ref a :: st) h cs ss Post := by
  intro p e s m args below meth c ls H locs F hl hR hS h1 h2
  obtain ⟨cell, q1, q2, q3, q4, q5, q6, q7⟩ := hR.arr (j := 0) hkd
  refine W.iast F.1 F.2.1 q1 q2 q3 (not_out hin q4.1) rfl rfl hd fun H' e1 e2 e3 => ?_
  exact kk p e s m args below meth c ls H' _ F hl (hR.putA (j := 0) hkd e2 e3 e1 (isArr_set q2) q3 (by rw [k2_slotsz]; exact q4.new ha) q5 (set_get (q4.new ha) (vp_in_lt hin) q6) q7) (hS.put e2 e3 ha) h1 h2
theorem ev_last {a n : Nat} {i : Int32} {x : Int64} (ha : G.n0 ≤ a) (hkd : h.1 a = (104, n)) (hin : vp_in i n) (hd : decode r.2.1 pc = .ok (.lastore, 1)) (kk : Ev G r (pc + 1) L st (hset h a i.toNatClampNeg (.long x)) cs ss Post) : Ev G r pc L (.long x :: .int i :: .ref a :: st) h cs ss Post := by
  intro p e s m args below meth c ls H locs F hl hR hS h1 h2
  obtain ⟨cell, q1, q2, q3, q4, q5, q6, q7⟩ := hR.arr (j := 3) hkd
  refine W.last F.1 F.2.1 q1 q2 q3 (not_out hin q4.1) rfl rfl hd fun H' e1 e2 e3 => ?_
  exact kk p e s m args below meth c ls H' _ F hl (hR.putA (j := 3) hkd e2 e3 e1 (isArr_set q2) q3 (by rw [k2_slotsz]; exact q4.new ha) q5 (set_get (q4.new ha) (vp_in_lt hin) q6) q7) (hS.put e2 e3 ha) h1 h2
theorem ev_zast {a n : Nat} {i x : Int32} (hn : narrow .boolean (.int x) = .int x) (ha : G.n0 ≤ a) (hkd : h.1 a = (102, n)) (hin : vp_in i n) (hd : decode r.2.1 pc = .ok (.bastore, 1)) (kk : Ev G r (pc + 1) L st (hset h a i.toNatClampNeg (.int x)) cs ss Post) : Ev G r pc L (.int x :: .int i :: .ref a :: st) h cs ss Post := by
  intro p e s m args below meth c ls H locs F hl hR hS h1 h2
  obtain ⟨cell, q1, q2, q3, q4, q5, q6, q7⟩ := hR.arr (j := 1) hkd
  refine W.zast F.1 F.2.1 q1 q2 q3 (not_out hin q4.1) rfl rfl hd fun H' e1 e2 e3 => ?_
  rw [hn] at e1
  exact kk p e s m args below meth c ls H' _ F hl (hR.putA (j := 1) hkd e2 e3 e1 (isArr_set q2) q3 (by rw [k2_slotsz]; exact q4.new ha) q5 (set_get (q4.new ha) (vp_in_lt hin) q6) q7) (hS.put e2 e3 ha) h1 h2
theorem ev_bast {a n : Nat} {i x : Int32} (hn : narrow .byte (.int x) = .int x) (ha : G.n0 ≤ a) (hkd : h.1 a = (103, n)) (hin : vp_in i n) (hd : decode r.2.1 pc = .ok (.bastore, 1)) (kk : Ev G r (pc + 1) L st (hset h a i.toNatClampNeg (.int x)) cs ss Post) : Ev G r pc L (.int x :: .int i :: .ref a :: st) h cs ss Post := by
  intro p e s m args below meth c ls H locs F hl hR hS h1 h2
  obtain ⟨cell, q1, q2, q3, q4, q5, q6, q7⟩ := hR.arr (j := 2) hkd
  refine W.bast F.1 F.2.1 q1 q2 q3 (not_out hin q4.1) rfl rfl hd fun H' e1 e2 e3 => ?_
  rw [hn] at e1
  exact kk p e s m args below meth c ls H' _ F hl (hR.putA (j := 2) hkd e2 e3 e1 (isArr_set q2) q3 (by rw [k2_slotsz]; exact q4.new ha) q5 (set_get (q4.new ha) (vp_in_lt hin) q6) q7) (hS.put e2 e3 ha) h1 h2
end EVH
