theorem ev_ldcSw {G : Gx} {r : Mr} {pc : Nat} {L st : List Value} {h : Hp} {cs ss : Nat} {Post : Res → Hp → Prop} {i n : Nat} {tx : String} (hi : lits[i]? = some (r.1.cls, n, tx)) (hd : decode r.2.1 pc = .ok (.ldc_w n, 3)) (k : Ev G r (pc + 3) L (.ref (G.lit i) :: st) h cs ss Post) : Ev G r pc L st h cs ss Post := by
  intro p e s m args below meth c ls H locs F hl hR hS h1 h2
  have hZ := F.2.2.2.2.2.2.2.2.1.2.2.2.2.2.1 i _ hi
  intro T hT X
  obtain ⟨t, a1, b1⟩ := k p e s m args below meth c ls H locs F hl hR hS h1 h2 T hT X
  exact ⟨t, X.ldcStringW F.1 F.2.2.2.2.1 (text := tx) (a := G.lit i) hZ.1 hZ.2 (g := F0 m pc ls st) rfl (by rw [F.2.1]; exact hd) t a1, b1⟩
/-! ===== one instruction of the table: right ===== -/
theorem gd_in {l : List Value} {P : Prop} (hg : gd l P) : (l.map fun v => v.category).sum ≤ 8 ∧ P := by
  unfold gd at hg
  split at hg
  · rename_i hle
    refine ⟨?_, hg⟩
    have key : ∀ l : List Value, (l.map fun v => v.category).sum ≤ 2 * l.length := by
      intro l
      induction l with
      | nil => simp
      | cons x l ih =>
        have : x.category ≤ 2 := by rcases lv_cat x with z | z <;> omega
        simp only [List.map_cons, List.sum_cons, List.length_cons]
        omega
    have := key l
    omega
  · exact hg.elim
theorem gs_in {n : Nat} {l : List Value} {P : Prop} (hg : gs n l P) : n ≤ l.length ∧ ((l.drop n).map fun v => v.category).sum ≤ 8 ∧ P := by
  unfold gs at hg
  split at hg
  · rename_i hle
    have := gd_in (l := l.drop n) (P := P) (by unfold gd; rw [if_pos hle.2]; exact hg)
    exact ⟨hle.1, this.1, hg⟩
  · exact hg.elim
theorem gp_in {d n : Nat} {P : Prop} (hg : gp d n P) : n ≤ d ∧ P := by
  unfold gp at hg
  split at hg
  · exact ⟨‹_›, hg⟩
  · exact hg.elim
theorem gz_in {q : Mr} {P : Prop} (hg : gz q P) : (q.mc = 0 ∧ q.ms = 0) ∧ P := by
  unfold gz at hg
  split at hg
  · exact ⟨‹_›, hg⟩
  · exact hg.elim
theorem refT_ok {o : Option FieldType} (h : refT o = true) : ∃ ty, o = some ty ∧ ((∃ n, ty = .object n) ∨ ∃ n, ty = .array n) := by
  unfold refT at h
  split at h
  · exact ⟨_, rfl, Or.inl ⟨_, rfl⟩⟩
  · exact ⟨_, rfl, Or.inr ⟨_, rfl⟩⟩
  · cases h
section STP
variable {G : Gx} {r q : Mr} {pc : Nat} {cl : List (Mr × Nat × Nat)} {sw : List (List Nat)} {tb : List Ent} {L st : List Value} {h : Hp} {cs ss : Nat} {Post : Res → Hp → Prop} {K : Kt} {i len a b c w n f : Nat} {ins : Instr} {v : Int32}
theorem take_drop_eq (st : List Value) (n : Nat) : st = ((st.take n).reverse).reverse ++ st.drop n := by simp
theorem cl_map {q' : MethodName × Nat × Nat} (hc : cl[a]? = some (q, n, f)) (hq : (cl.map fun q => (q.1.1, q.2.1, q.2.2))[a]? = some q') : q' = (q.1, n, f) := by
  rw [List.getElem?_map, hc] at hq
  exact (Option.some.inj hq).symm
/-- a static call -/
theorem st_S {P1 : Res → Hp → Prop} {x : Nat} (hT : cOK q n f ∧ q.dp + 1 ≤ r.dp) (hf : f = 0) (hlen : n ≤ st.length) (hst : ((st.drop n).map fun v => v.category).sum ≤ 8) (hw : Cond.methodLink r.1.cls x q.1 ∈ lw_good) (hd : decode r.2.1 pc = .ok (.invokestatic x, 3)) (hM : EvM G q (st.take n).reverse h P1)
    (k : cs ≤ r.mc → ss ≤ r.ms → (cs + q.mc ≤ r.mc ∧ ss + q.ms ≤ r.ms) ∧ (∀ v h', P1 (.inl v) h' → Ev G r (pc + 3) L (v.toList ++ st.drop n) h' (cs + q.mc) (ss + q.ms) Post) ∧ (∀ E h', P1 (.inr E) h' → Post (.inr E) h')) : Ev G r pc L st h cs ss Post := by
  refine Ev.within fun h1 h2 => ?_
  obtain ⟨⟨k1, k2⟩, k3, k4⟩ := k h1 h2
  obtain ⟨⟨o1, o2, o3, o4, o5, -, -⟩, o8⟩ := hT
  rw [take_drop_eq st n]
  exact ev_callS hM o1 hw o2 (o5 hf) (by rw [List.length_reverse, List.length_take, Nat.min_eq_left hlen]; exact o3) o8 o4 hst hd k1 k2 k3 k4
theorem st_V {P1 : Res → Hp → Prop} {x p kd : Nat} {s2 : List Value} (hT : cOK q n f ∧ q.dp + 1 ≤ r.dp) (hf : f = 1) (hdr : st.drop n = .ref p :: s2) (hst : (s2.map fun v => v.category).sum ≤ 8) (hw : Cond.methodLink r.1.cls x q.1 ∈ lw_good) (hkd : kdC kd q.1.cls = true) (hrk : rK G h kd p) (hd : decode r.2.1 pc = .ok (.invokevirtual x, 3)) (hM : EvM G q (.ref p :: (st.take n).reverse) h P1)
    (k : cs ≤ r.mc → ss ≤ r.ms → (cs + q.mc ≤ r.mc ∧ ss + q.ms ≤ r.ms) ∧ (∀ v h', P1 (.inl v) h' → Ev G r (pc + 3) L (v.toList ++ s2) h' (cs + q.mc) (ss + q.ms) Post) ∧ (∀ E h', P1 (.inr E) h' → Post (.inr E) h')) : Ev G r pc L st h cs ss Post := by
  refine Ev.within fun h1 h2 => ?_
  obtain ⟨⟨k1, k2⟩, k3, k4⟩ := k h1 h2
  obtain ⟨⟨o1, o2, o3, o4, -, o6, -⟩, o8⟩ := hT
  have hlen : n ≤ st.length := by
    by_cases z : n ≤ st.length
    · exact z
    · rw [List.drop_eq_nil_of_le (by omega)] at hdr; cases hdr
  rw [take_drop_eq st n, hdr]
  exact ev_callV hM o1 hw o2 (o6 hf).1 (o6 hf).2 (by rw [List.length_reverse, List.length_take, Nat.min_eq_left hlen]; exact o3) o8 o4 (rK_rcv hkd hrk) hst hd k1 k2 k3 k4
theorem st_I {P1 : Res → Hp → Prop} {x p : Nat} {s2 : List Value} (hT : cOK q n f ∧ q.dp + 1 ≤ r.dp) (hf : f = 2) (hdr : st.drop n = .ref p :: s2) (hst : (s2.map fun v => v.category).sum ≤ 8) (hw : Cond.methodLink r.1.cls x q.1 ∈ lw_good ∨ (r.1.cls, x, q.1, "GripEstates") ∈ nests) (hd : decode r.2.1 pc = .ok (.invokespecial x, 3)) (hM : EvM G q (.ref p :: (st.take n).reverse) h P1) (hno : ∀ E h', ¬ P1 (.inr E) h')
    (k : cs ≤ r.mc → ss ≤ r.ms → (cs + q.mc ≤ r.mc ∧ ss + q.ms ≤ r.ms) ∧ (∀ v h', P1 (.inl v) h' → Ev G r (pc + 3) L (v.toList ++ s2) h' (cs + q.mc) (ss + q.ms) Post)) : Ev G r pc L st h cs ss Post := by
  refine Ev.within fun h1 h2 => ?_
  obtain ⟨⟨k1, k2⟩, k3⟩ := k h1 h2
  obtain ⟨⟨o1, o2, o3, o4, -, -, o7⟩, o8⟩ := hT
  obtain ⟨o71, o72, o73⟩ := o7 hf
  have hlen : n ≤ st.length := by
    by_cases z : n ≤ st.length
    · exact z
    · rw [List.drop_eq_nil_of_le (by omega)] at hdr; cases hdr
  have o1' : Cond.code q.1 q.2.1 q.ml none ∈ lw_good := by rw [o73] at o1; exact o1
  rw [take_drop_eq st n, hdr]
  rcases hw with hw | hw
  · exact ev_callI hM hno o73 o1' hw o2 o71 o72 (by rw [List.length_reverse, List.length_take, Nat.min_eq_left hlen]; exact o3) o8 o4 hst hd k1 k2 k3
  · exact ev_callIN hM hno o73 o1' hw o2 o71 o72 (by rw [List.length_reverse, List.length_take, Nat.min_eq_left hlen]; exact o3) o8 o4 hst hd k1 k2 k3
theorem kcall_v {P1 : Res → Hp → Prop} {s2 : List Value} (hK : KOK G r tb Post K) (hn : pcAt tb (i + 1) = pc + 3) (H : bud r q cs ss (fun cs ss => ∀ o h', P1 o h' → (o = .inl none ∧ K (i + 1) L s2 h' cs ss) ∨ (∃ E, o = .inr E ∧ Post (.inr E) h'))) :
    cs ≤ r.mc → ss ≤ r.ms → (cs + q.mc ≤ r.mc ∧ ss + q.ms ≤ r.ms) ∧ (∀ v h', P1 (.inl v) h' → Ev G r (pc + 3) L (v.toList ++ s2) h' (cs + q.mc) (ss + q.ms) Post) ∧ (∀ E h', P1 (.inr E) h' → Post (.inr E) h') := by
  intro h1 h2
  obtain ⟨hb, H⟩ := bud_split h1 h2 H
  refine ⟨hb, fun v h' hp => ?_, fun E h' hp => ?_⟩
  · rcases H _ h' hp with ⟨e1, k⟩ | ⟨E, e1, -⟩
    · cases e1
      exact hK.nx hn k
    · cases e1
  · rcases H _ h' hp with ⟨e1, -⟩ | ⟨E', e1, k⟩
    · cases e1
    · cases e1
      exact k
theorem kcall_i {P1 : Res → Hp → Prop} {s2 : List Value} (hK : KOK G r tb Post K) (hn : pcAt tb (i + 1) = pc + 3) (H : bud r q cs ss (fun cs ss => ∀ o h', P1 o h' → (∃ x, o = .inl (some (.int x)) ∧ K (i + 1) L (.int x :: s2) h' cs ss) ∨ (∃ E, o = .inr E ∧ Post (.inr E) h'))) :
    cs ≤ r.mc → ss ≤ r.ms → (cs + q.mc ≤ r.mc ∧ ss + q.ms ≤ r.ms) ∧ (∀ v h', P1 (.inl v) h' → Ev G r (pc + 3) L (v.toList ++ s2) h' (cs + q.mc) (ss + q.ms) Post) ∧ (∀ E h', P1 (.inr E) h' → Post (.inr E) h') := by
  intro h1 h2
  obtain ⟨hb, H⟩ := bud_split h1 h2 H
  refine ⟨hb, fun v h' hp => ?_, fun E h' hp => ?_⟩
  · rcases H _ h' hp with ⟨x, e1, k⟩ | ⟨E, e1, -⟩
    · cases e1
      exact hK.nx hn k
    · cases e1
  · rcases H _ h' hp with ⟨x, e1, -⟩ | ⟨E', e1, k⟩
    · cases e1
    · cases e1
      exact k
theorem kcall_r {P1 : Res → Hp → Prop} {s2 : List Value} (hK : KOK G r tb Post K) (hn : pcAt tb (i + 1) = pc + 3) (H : bud r q cs ss (fun cs ss => ∀ o h', P1 o h' → (∃ x, o = .inl (some (.ref x)) ∧ K (i + 1) L (.ref x :: s2) h' cs ss) ∨ (∃ E, o = .inr E ∧ Post (.inr E) h'))) :
    cs ≤ r.mc → ss ≤ r.ms → (cs + q.mc ≤ r.mc ∧ ss + q.ms ≤ r.ms) ∧ (∀ v h', P1 (.inl v) h' → Ev G r (pc + 3) L (v.toList ++ s2) h' (cs + q.mc) (ss + q.ms) Post) ∧ (∀ E h', P1 (.inr E) h' → Post (.inr E) h') := by
  intro h1 h2
  obtain ⟨hb, H⟩ := bud_split h1 h2 H
  refine ⟨hb, fun v h' hp => ?_, fun E h' hp => ?_⟩
  · rcases H _ h' hp with ⟨x, e1, k⟩ | ⟨E, e1, -⟩
    · cases e1
      exact hK.nx hn k
    · cases e1
  · rcases H _ h' hp with ⟨x, e1, -⟩ | ⟨E', e1, k⟩
    · cases e1
    · cases e1
      exact k
theorem kcall_c {P1 : Res → Hp → Prop} {s2 : List Value} (hK : KOK G r tb Post K) (hn : pcAt tb (i + 1) = pc + 3) (H : bud r q cs ss (fun cs ss => ∀ o h', P1 o h' → o = .inl none ∧ K (i + 1) L s2 h' cs ss)) :
    cs ≤ r.mc → ss ≤ r.ms → (cs + q.mc ≤ r.mc ∧ ss + q.ms ≤ r.ms) ∧ (∀ v h', P1 (.inl v) h' → Ev G r (pc + 3) L (v.toList ++ s2) h' (cs + q.mc) (ss + q.ms) Post) := by
  intro h1 h2
  obtain ⟨hb, H⟩ := bud_split h1 h2 H
  refine ⟨hb, fun v h' hp => ?_⟩
  obtain ⟨e1, k⟩ := H _ h' hp
  cases e1
  exact hK.nx hn k
theorem bud_no {P1 : Res → Hp → Prop} {X : Hp → Nat → Nat → Prop} (H : bud r q cs ss (fun cs ss => ∀ o h', P1 o h' → o = .inl none ∧ X h' cs ss)) : ∀ E h', ¬ P1 (.inr E) h' := by
  intro E h' hp
  unfold bud at H
  split at H
  · cases (H _ h' hp).1
  · cases (H.2 _ h' hp).1
theorem ev_castI {a n idx : Nat} (hw : Cond.classLink r.1.cls idx "[I" ∈ lw_good) (ha : G.n0 ≤ a) (hk : h.1 a = (101, n)) (hd : decode r.2.1 pc = .ok (.checkcast idx, 3)) (kk : Ev G r (pc + 3) L (.ref a :: st) h cs ss Post) : Ev G r pc L (.ref a :: st) h cs ss Post := by
  intro p e s m args below meth c ls H locs F hl hR hS h1 h2
  obtain ⟨cell, q1, q2, q3, q4, q5, q6, q7⟩ := hR.arr (j := 0) hk
  have hnm : s.vm.findClass "[I" = some cell.cls := q7 ha
  intro T hT X
  obtain ⟨vm', X', stp⟩ := X.checkcastYes F.1 F.2.2.2.2.1 (F.2.2.2.2.2.1 _ hw) (by rw [hT]; exact q1) (by cases hv : cell.vm <;> first | rfl | exact absurd hv (q2.1 _)) hnm (va_asg _ _) (g := F0 m pc ls (.ref a :: st)) rfl rfl (by rw [F.2.1]; exact hd)
  obtain ⟨t, a1, b1⟩ := kk p e s m args below meth c ls H locs F hl hR hS h1 h2 (T.setVm vm') hT X'
  exact ⟨t, stp t a1, b1⟩
theorem ev_mmax {idx : Nat} {x y : Int32} (hw : Cond.methodLink r.1.cls idx Lib.Math.max.name ∈ lw_good) (hd : decode r.2.1 pc = .ok (.invokestatic idx, 3)) (hdp : 1 ≤ r.dp) (hst : (st.map fun v => v.category).sum ≤ 8) (kk : Ev G r (pc + 3) L (.int (imax x y) :: st) h cs ss Post) : Ev G r pc L (.int y :: .int x :: st) h cs ss Post := by
  intro p e s m args below meth c ls H locs F hl hR hS h1 h2
  have hts := F.2.2.2.2.2.1
  exact va_mmax F.1 F.2.1 (by rw [F.2.2.2.1]; exact hl.1.symm) F.2.2.2.2.1 (hts _ hw) (hts _ (wd_ok (k := 1070) (by decide +kernel))) (hts _ (wd_ok (k := 159) (by decide +kernel))) (hts _ (wd_ok (k := 1071) (by decide +kernel))) hdp (by show _ + 13 ≤ 64 * r.dp; omega) h1 h2 hd (kk p e s m args below meth c ls H locs F hl hR hS h1 h2)
theorem ev_mmin {idx : Nat} {x y : Int32} (hw : Cond.methodLink r.1.cls idx Lib.Math.min.name ∈ lw_good) (hd : decode r.2.1 pc = .ok (.invokestatic idx, 3)) (hdp : 1 ≤ r.dp) (hst : (st.map fun v => v.category).sum ≤ 8) (kk : Ev G r (pc + 3) L (.int (imin x y) :: st) h cs ss Post) : Ev G r pc L (.int y :: .int x :: st) h cs ss Post := by
  intro p e s m args below meth c ls H locs F hl hR hS h1 h2
  have hts := F.2.2.2.2.2.1
  exact va_mmin F.1 F.2.1 (by rw [F.2.2.2.1]; exact hl.1.symm) F.2.2.2.2.1 (hts _ hw) (hts _ (wd_ok (k := 1077) (by decide +kernel))) (hts _ (wd_ok (k := 159) (by decide +kernel))) (hts _ (wd_ok (k := 1078) (by decide +kernel))) hdp (by show _ + 13 ≤ 64 * r.dp; omega) h1 h2 hd (kk p e s m args below meth c ls H locs F hl hR hS h1 h2)
theorem sw_sound {ts : List Nat} {x : Int32} (hK : KOK G r tb Post K) (hd : decode r.2.1 pc = .ok (.tableswitch ((pcAt tb b : Int) - pc) v.toInt (v.toInt + ts.length - 1) (ts.map (fun t => (pcAt tb t : Int) - pc)).toArray, len)) (hlo : -1000 ≤ v.toInt) (hhi : v.toInt ≤ 1000) (hlen : ts.length ≤ 1000)
    (hs : swP (fun t => K t L st h cs ss) ts v x) (hdf : x < v ∨ v + Int32.ofNat ts.length ≤ x → K b L st h cs ss) : Ev G r pc L (.int x :: st) h cs ss Post := by
  have hvl : (v + Int32.ofNat ts.length).toInt = v.toInt + ts.length := by
    rw [Int32.toInt_add, show (Int32.ofNat ts.length).toInt = (ts.length : Int) from nI_toInt (by omega)]
    exact Int.bmod_eq_of_le (by omega) (by omega)
  by_cases h1 : x.toInt < v.toInt
  · exact ev_tabOut hd (Or.inl h1) (off_ok _ _) (hK.nx rfl (hdf (Or.inl (Int32.lt_iff_toInt_lt.mpr h1))))
  · by_cases h2 : v.toInt + ts.length - 1 < x.toInt
    · exact ev_tabOut hd (Or.inr h2) (off_ok _ _) (hK.nx rfl (hdf (Or.inr (Int32.le_iff_toInt_le.mpr (by rw [hvl]; omega)))))
    · have hk : (x.toInt - v.toInt).toNat < ts.length := by omega
      refine ev_tabIn hd h1 h2 (off := (pcAt tb (ts[(x.toInt - v.toInt).toNat]) : Int) - pc) ?_ (off_ok _ _) (hK.nx rfl (swP_get (K := fun t => K t L st h cs ss) ts v x (x.toInt - v.toInt).toNat _ hs (List.getElem?_eq_getElem hk) ?_))
      · simp [hk]
      · apply Int32.toInt_inj.mp
        rw [Int32.toInt_add, show (Int32.ofNat (x.toInt - v.toInt).toNat).toInt = ((x.toInt - v.toInt).toNat : Int) from nI_toInt (by omega)]
        rw [Int.bmod_eq_of_le (by omega) (by omega)]
        omega
end STP
set_option maxHeartbeats 4000000 in
theorem stepw_sound {G : Gx} {r : Mr} {cl : List (Mr × Nat × Nat)} {sw : List (List Nat)} {tb : List Ent} {L st : List Value} {h : Hp} {cs ss : Nat} {Post : Res → Hp → Prop} {K : Kt} {i pc len op a b c w : Nat} {ins : Instr} {v : Int32} (hT : ∀ q ∈ cl, cOK q.1 q.2.1 q.2.2 ∧ q.1.dp + 1 ≤ r.dp) (hl0 : G.1.stackTraces = false) (hK : KOK G r tb Post K)
    (hok : eok r.1.cls r.1.name r.2.1 r.ml r.rt (cl.map fun q => (q.1.1, q.2.1, q.2.2)) sw tb i pc ins len op a b c w v = true) (H : stepw G r cl sw K i op a b c v L st h cs ss Post) : Ev G r pc L st h cs ss Post := by
  unfold eok at hok
  rw [Bool.and_eq_true, decide_eq_true_eq] at hok
  obtain ⟨hd, hok⟩ := hok
  unfold stepw at H
  split at H
  · simp only [Bool.and_eq_true, Bool.or_eq_true, decide_eq_true_eq] at hok
    obtain ⟨hn, ho⟩ := hok
    split at H
    · rename_i x hx
      rcases ho with ⟨rfl, rfl⟩ | ho
      · exact ev_iload hd hx (hK.nx hn H)
      · obtain ⟨k, hk, ho⟩ := n4_ok ho
        simp only [decide_eq_true_eq] at ho
        obtain ⟨rfl, rfl⟩ := ho
        exact ev_iloadn hk hd hx (hK.nx hn H)
    · exact H.elim
  · simp only [Bool.and_eq_true, Bool.or_eq_true, decide_eq_true_eq] at hok
    obtain ⟨hn, ho⟩ := hok
    split at H
    · rename_i x hx
      rcases ho with ⟨rfl, rfl⟩ | ho
      · exact ev_aload hd hx (hK.nx hn H)
      · obtain ⟨k, hk, ho⟩ := n4_ok ho
        simp only [decide_eq_true_eq] at ho
        obtain ⟨rfl, rfl⟩ := ho
        exact ev_aloadn hk hd hx (hK.nx hn H)
    · exact H.elim
  · simp only [Bool.and_eq_true, Bool.or_eq_true, decide_eq_true_eq] at hok
    obtain ⟨⟨hn, hm⟩, ho⟩ := hok
    split at H
    · rcases ho with ⟨rfl, rfl⟩ | ho
      · exact ev_istore hd hm (hK.nx hn H)
      · obtain ⟨k, hk, ho⟩ := n4_ok ho
        simp only [decide_eq_true_eq] at ho
        obtain ⟨rfl, rfl⟩ := ho
        exact ev_istoren hk hd hm (hK.nx hn H)
    · exact H.elim
  · simp only [Bool.and_eq_true, Bool.or_eq_true, decide_eq_true_eq] at hok
    obtain ⟨⟨hn, hm⟩, ho⟩ := hok
    split at H
    · rcases ho with ⟨rfl, rfl⟩ | ho
      · exact ev_astore hd hm (hK.nx hn H)
      · obtain ⟨k, hk, ho⟩ := n4_ok ho
        simp only [decide_eq_true_eq] at ho
        obtain ⟨rfl, rfl⟩ := ho
        exact ev_astoren hk hd hm (hK.nx hn H)
    · exact H.elim
  · simp only [Bool.and_eq_true, Bool.or_eq_true, decide_eq_true_eq] at hok
    obtain ⟨hn, ho⟩ := hok
    rcases ho with (((⟨rfl, rfl, hv⟩ | ⟨rfl, rfl, hv⟩) | ⟨rfl, rfl, hv⟩) | ⟨⟨rfl, rfl⟩, hw⟩) | ⟨⟨rfl, rfl⟩, hw⟩
    · exact ev_iconst hd hv (hK.nx hn H)
    · exact ev_bipush hd hv (hK.nx hn H)
    · exact ev_sipush hd hv (hK.nx hn H)
    · exact ev_ldc (wd_ok hw) hd (hK.nx hn H)
    · exact ev_ldcw (wd_ok hw) hd (hK.nx hn H)
  · simp only [Bool.and_eq_true, Bool.or_eq_true, decide_eq_true_eq] at hok
    obtain ⟨⟨hn, hm⟩, rfl, rfl, hv⟩ := hok
    split at H
    · rename_i x hx
      exact ev_iinc hd hv hx hm (hK.nx hn H)
    · exact H.elim
  · simp only [Bool.and_eq_true, Bool.or_eq_true, decide_eq_true_eq] at hok
    obtain ⟨hn, rfl, rfl⟩ := hok
    split at H
    · unfold binI at hd
      unfold bop at H
      split at hd
      · exact ev_iadd hd (hK.nx hn H)
      · exact ev_isub hd (hK.nx hn H)
      · exact ev_imul hd (hK.nx hn H)
      · exact ev_iand hd (hK.nx hn H)
      · exact ev_ior hd (hK.nx hn H)
      · exact ev_ixor hd (hK.nx hn H)
      · exact ev_ishl hd (hK.nx hn H)
      · exact ev_ishr hd (hK.nx hn H)
      · rename_i x1 x2 x3 x4 x5 x6 x7 x8
        split at H <;> first | exact ev_iushr hd (hK.nx hn H) | (exfalso; first | exact x1 rfl | exact x2 rfl | exact x3 rfl | exact x4 rfl | exact x5 rfl | exact x6 rfl | exact x7 rfl | exact x8 rfl)
    · exact H.elim
  · simp only [Bool.and_eq_true, Bool.or_eq_true, decide_eq_true_eq] at hok
    obtain ⟨hn, rfl, rfl⟩ := hok
    split at H
    · exact ev_idiv hd H.1 (hK.nx hn H.2)
    · exact H.elim
  · simp only [Bool.and_eq_true, Bool.or_eq_true, decide_eq_true_eq] at hok
    obtain ⟨hn, rfl, rfl⟩ := hok
    split at H
    · exact ev_irem hd H.1 (hK.nx hn H.2)
    · exact H.elim
  · simp only [Bool.and_eq_true, Bool.or_eq_true, decide_eq_true_eq] at hok
    obtain ⟨hn, rfl, rfl⟩ := hok
    split at H
    · unfold unI at hd
      unfold uop at H
      split at hd
      · exact ev_ineg hd (hK.nx hn H)
      · exact ev_i2b hd (hK.nx hn H)
      · rename_i x1 x2
        split at H <;> first | exact ev_i2c hd (hK.nx hn H) | (exfalso; first | exact x1 rfl | exact x2 rfl)
    · exact H.elim
  · simp only [Bool.and_eq_true, Bool.or_eq_true, decide_eq_true_eq] at hok
    obtain ⟨hn, rfl, rfl⟩ := hok
    split at H
    · exact ev_i2l hd (hK.nx hn H)
    · exact H.elim
  · simp only [Bool.and_eq_true, Bool.or_eq_true, decide_eq_true_eq] at hok
    obtain ⟨hn, rfl, rfl⟩ := hok
    split at H
    · exact ev_lcmp hd (hK.nx hn H)
    · exact H.elim
  · simp only [Bool.and_eq_true, Bool.or_eq_true, decide_eq_true_eq] at hok
    obtain ⟨hn, ho⟩ := hok
    rcases ho with ⟨rfl, rfl, rfl⟩ | ⟨rfl, rfl, rfl⟩
    · exact ev_lconst hd rfl (hK.nx hn H)
    · exact ev_lconst hd rfl (hK.nx hn H)
  · simp only [Bool.and_eq_true, Bool.or_eq_true, decide_eq_true_eq] at hok
    obtain ⟨hn, rfl, rfl⟩ := hok
    split at H
    · exact ev_dup hd rfl (hK.nx hn H)
    · exact ev_dup hd rfl (hK.nx hn H)
    · exact H.elim
  · simp only [Bool.and_eq_true, Bool.or_eq_true, decide_eq_true_eq] at hok
    obtain ⟨hn, rfl, rfl⟩ := hok
    split at H
    · exact ev_dup2 hd rfl rfl (hK.nx hn H)
    · exact H.elim
  · simp only [Bool.and_eq_true, Bool.or_eq_true, decide_eq_true_eq] at hok
    obtain ⟨hn, rfl, rfl⟩ := hok
    split at H
    · exact ev_pop hd rfl (hK.nx hn H)
    · exact H.elim
  · simp only [Bool.and_eq_true, Bool.or_eq_true, decide_eq_true_eq] at hok
    obtain ⟨hn, rfl, rfl⟩ := hok
    split at H
    · unfold br1 at H
      unfold cndI at hd
      split at hd
      · exact ev_if_eq hd (off_ok _ _) (fun z => hK.nx rfl (H.1 z)) (fun z => hK.nx hn (H.2 z))
      · exact ev_if_ne hd (off_ok _ _) (fun z => hK.nx rfl (H.1 z)) (fun z => hK.nx hn (H.2 z))
      · exact ev_if_lt hd (off_ok _ _) (fun z => hK.nx rfl (H.1 z)) (fun z => hK.nx hn (H.2 z))
      · exact ev_if_ge hd (off_ok _ _) (fun z => hK.nx rfl (H.1 z)) (fun z => hK.nx hn (H.2 z))
      · exact ev_if_gt hd (off_ok _ _) (fun z => hK.nx rfl (H.1 z)) (fun z => hK.nx hn (H.2 z))
      · rename_i x1 x2 x3 x4 x5
        split at H <;> first | exact ev_if_le hd (off_ok _ _) (fun z => hK.nx rfl (H.1 z)) (fun z => hK.nx hn (H.2 z)) | (exfalso; first | exact x1 rfl | exact x2 rfl | exact x3 rfl | exact x4 rfl | exact x5 rfl)
    · exact H.elim
  · simp only [Bool.and_eq_true, Bool.or_eq_true, decide_eq_true_eq] at hok
    obtain ⟨hn, rfl, rfl⟩ := hok
    split at H
    · unfold br2 at H
      unfold cndI at hd
      split at hd
      · exact ev_icmp_eq hd (off_ok _ _) (fun z => hK.nx rfl (H.1 z)) (fun z => hK.nx hn (H.2 z))
      · exact ev_icmp_ne hd (off_ok _ _) (fun z => hK.nx rfl (H.1 z)) (fun z => hK.nx hn (H.2 z))
      · exact ev_icmp_lt hd (off_ok _ _) (fun z => hK.nx rfl (H.1 z)) (fun z => hK.nx hn (H.2 z))
      · exact ev_icmp_ge hd (off_ok _ _) (fun z => hK.nx rfl (H.1 z)) (fun z => hK.nx hn (H.2 z))
      · exact ev_icmp_gt hd (off_ok _ _) (fun z => hK.nx rfl (H.1 z)) (fun z => hK.nx hn (H.2 z))
      · rename_i x1 x2 x3 x4 x5
        split at H <;> first | exact ev_icmp_le hd (off_ok _ _) (fun z => hK.nx rfl (H.1 z)) (fun z => hK.nx hn (H.2 z)) | (exfalso; first | exact x1 rfl | exact x2 rfl | exact x3 rfl | exact x4 rfl | exact x5 rfl)
    · exact H.elim
  · simp only [Bool.and_eq_true, Bool.or_eq_true, decide_eq_true_eq] at hok
    obtain ⟨hn, ho⟩ := hok
    split at H
    · rcases ho with ⟨rfl, rfl, rfl⟩ | ⟨rfl, rfl, rfl⟩
      · exact ev_acmp_eq hd (off_ok _ _) (fun z => hK.nx rfl (H.1 z)) (fun z => hK.nx hn (H.2 z))
      · exact ev_acmp_ne hd (off_ok _ _) (fun z => hK.nx rfl (H.1 z)) (fun z => hK.nx hn (H.2 z))
    · exact H.elim
  · simp only [Bool.and_eq_true, Bool.or_eq_true, decide_eq_true_eq] at hok
    obtain ⟨rfl, rfl⟩ := hok
    exact ev_goto hd (off_ok _ _) (hK.nx rfl H)
  · split at H
    · rename_i _ _ x st ts hts
      rw [hts] at hok
      simp only [Bool.and_eq_true, decide_eq_true_eq] at hok
      obtain ⟨⟨⟨rfl, hlo⟩, hhi⟩, hlen⟩ := hok
      obtain ⟨hs, hdf⟩ := H
      exact sw_sound hK hd hlo hhi hlen hs hdf
    · exact H.elim
  · simp only [Bool.and_eq_true, decide_eq_true_eq] at hok
    obtain ⟨⟨hn, rfl⟩, ho⟩ := hok
    split at H
    · obtain ⟨x, hx, H⟩ := H
      split at ho
      · rename_i _ _ q hq
        simp only [Bool.and_eq_true, decide_eq_true_eq] at ho
        exact ev_getf (C := q.1) (T := q.2.1) (N := q.2.2) hq ho.1 (wd_ok ho.2) hd hx.1 hx.2 (hK.nx hn H)
      · cases ho
    · exact H.elim
  · simp only [Bool.and_eq_true, decide_eq_true_eq] at hok
    obtain ⟨⟨hn, rfl⟩, ho⟩ := hok
    split at H
    · obtain ⟨x, hx, H⟩ := H
      split at ho
      · rename_i _ _ q hq
        simp only [Bool.and_eq_true, decide_eq_true_eq] at ho
        exact ev_getf (C := q.1) (T := q.2.1) (N := q.2.2) hq ho.1 (wd_ok ho.2) hd hx.1 hx.2 (hK.nx hn H)
      · cases ho
    · exact H.elim
  · simp only [Bool.and_eq_true, decide_eq_true_eq] at hok
    obtain ⟨⟨hn, rfl⟩, ho⟩ := hok
    split at ho
    · rename_i _ _ q hq
      simp only [Bool.and_eq_true, Bool.or_eq_true, Bool.not_eq_true', decide_eq_true_eq] at ho
      obtain ⟨⟨⟨hb, hw⟩, hfin⟩, hty⟩ := ho
      have put : ∀ {vv : Value} {p : Nat} {ty : FieldType} {s2 : List Value}, parseFieldDescriptor (q.2.1 b).2.2.1 = some ty → narrow ty vv = vv → fits ty vv = true → fW G h (a + 1) p → Ev G r (pc + 3) L s2 (hset h p b vv) cs ss Post → Ev G r pc L (vv :: .ref p :: s2) h cs ss Post := by
        intro vv p ty s2 e1 e2 e3 e4 k
        rcases hfin with hfin | ⟨f1, f2⟩
        · exact ev_putf (C := q.1) (T := q.2.1) (N := q.2.2) hq hb (wd_ok hw) hfin e1 e2 e3 hd e4.1 e4.2 k
        · by_cases hfn : (q.2.1 b).2.2.2 = true
          · exact ev_putF (C := q.1) (T := q.2.1) (N := q.2.2) hq hb (wd_ok hw) hfn f1 f2 e1 e2 e3 hd e4.1 e4.2 k
          · exact ev_putf (C := q.1) (T := q.2.1) (N := q.2.2) hq hb (wd_ok hw) (by simpa using hfn) e1 e2 e3 hd e4.1 e4.2 k
      split at H
      · exact put (of_decide_eq_true hty) rfl rfl H.1 (hK.nx hn H.2)
      · obtain ⟨hx, H⟩ := bret_in H
        exact put (of_decide_eq_true hty) (narrow_b hx).1 (narrow_b hx).2 H.1 (hK.nx hn H.2)
      · rw [if_neg (by decide), if_neg (by decide)] at hty
        obtain ⟨ty, he, hr⟩ := refT_ok hty
        rcases hr with ⟨n9, rfl⟩ | ⟨n9, rfl⟩
        · exact put he rfl rfl H.1 (hK.nx hn H.2)
        · exact put he rfl rfl H.1 (hK.nx hn H.2)
      · exact H.elim
    · cases ho
  · simp only [Bool.and_eq_true, Bool.or_eq_true, decide_eq_true_eq] at hok
    obtain ⟨⟨hn, rfl⟩, ho⟩ := hok
    split at H
    · obtain ⟨x, ⟨n, g1, g2, g3⟩, H⟩ := H
      rcases ho with (⟨rfl, rfl⟩ | ⟨rfl, rfl⟩) | ⟨rfl, rfl⟩
      · exact ev_iald g1 g2 g3 hd (hK.nx hn H)
      · exact ev_zald g1 g2 g3 hd (hK.nx hn H)
      · exact ev_bald g1 g2 g3 hd (hK.nx hn H)
    · exact H.elim
  · simp only [Bool.and_eq_true, Bool.or_eq_true, decide_eq_true_eq] at hok
    obtain ⟨⟨hn, rfl⟩, ha, rfl⟩ := hok
    split at H
    · obtain ⟨x, ⟨n, g1, g2, g3⟩, H⟩ := H
      exact ev_aald (j := a - 101) (by omega) (by rw [show 101 + (a - 101) = a by omega]; exact g1) g2 g3 hd (hK.nx hn H)
    · exact H.elim
  · simp only [Bool.and_eq_true, Bool.or_eq_true, decide_eq_true_eq] at hok
    obtain ⟨hn, rfl, rfl⟩ := hok
    split at H
    · obtain ⟨x, ⟨n, g1, g2, g3⟩, H⟩ := H
      exact ev_lald g1 g2 g3 hd (hK.nx hn H)
    · exact H.elim
  · simp only [Bool.and_eq_true, Bool.or_eq_true, decide_eq_true_eq] at hok
    obtain ⟨hn, rfl, rfl⟩ := hok
    split at H
    · obtain ⟨⟨g0, n, g1, g2⟩, H⟩ := H
      exact ev_iast g0 g1 g2 hd (hK.nx hn H)
    · exact H.elim
  · simp only [Bool.and_eq_true, Bool.or_eq_true, decide_eq_true_eq] at hok
    obtain ⟨hn, rfl, rfl⟩ := hok
    split at H
    · obtain ⟨hx, ⟨g0, n, g1, g2⟩, H⟩ := bret_in H
      exact ev_zast (narrow_b hx).1 g0 g1 g2 hd (hK.nx hn H)
    · exact H.elim
  · simp only [Bool.and_eq_true, Bool.or_eq_true, decide_eq_true_eq] at hok
    obtain ⟨hn, rfl, rfl⟩ := hok
    split at H
    · obtain ⟨hx, ⟨g0, n, g1, g2⟩, H⟩ := H
      exact ev_bast hx g0 g1 g2 hd (hK.nx hn H)
    · exact H.elim
  · simp only [Bool.and_eq_true, Bool.or_eq_true, decide_eq_true_eq] at hok
    obtain ⟨hn, rfl, rfl⟩ := hok
    split at H
    · obtain ⟨⟨g0, n, g1, g2⟩, H⟩ := H
      exact ev_last g0 g1 g2 hd (hK.nx hn H)
    · exact H.elim
  · simp only [Bool.and_eq_true, Bool.or_eq_true, decide_eq_true_eq] at hok
    obtain ⟨⟨hn, rfl, rfl⟩, ho⟩ := hok
    split at H
    · obtain ⟨hx, ⟨g0, n, g1, g2⟩, H⟩ := H
      rcases ho with ⟨rfl, rfl⟩ | ⟨rfl, rfl⟩
      · exact ev_aast (j := 4) (C := "GripEstates$Token") (by omega) rfl g0 g1 g2 (Or.inr ⟨0, rfl, hx⟩) hd (hK.nx hn H) (fun s args hg hts => by
          obtain ⟨cC, kC, z1, z2, z3, -⟩ := Cond.instantiable_spec (hts (Cond.instantiable "GripEstates$Token" 5) (wd_ok (k := 672) (by decide +kernel)))
          exact ⟨cC, z1, kC, z2, z3⟩)
      · exact ev_aast (j := 5) (C := "GripEstates$Valley") (by omega) rfl g0 g1 g2 (Or.inl ⟨7, 19, TX9, rfl, hx⟩) hd (hK.nx hn H) (fun s args hg hts => ⟨_, (hg.2.1 7 _ rfl).2⟩)
    · exact H.elim
  · simp only [Bool.and_eq_true, Bool.or_eq_true, decide_eq_true_eq] at hok
    obtain ⟨⟨hn, rfl, rfl⟩, ha⟩ := hok
    split at H
    · obtain ⟨n, g1, H⟩ := H
      exact ev_alen (j := a - 101) (n := n) (by rw [show 101 + (a - 101) = a by omega]; exact g1) rfl hd (hK.nx hn H)
    · exact H.elim
  · simp only [Bool.and_eq_true, decide_eq_true_eq] at hok
    obtain ⟨⟨hn, rfl⟩, ho⟩ := hok
    split at ho
    · rename_i _ _ q hq
      simp only [Bool.and_eq_true] at ho
      have hN : clsN a = q.2.2 := by simp only [clsN, hq]
      rw [hN] at H
      exact ev_new (C := q.1) (T := q.2.1) (N := q.2.2) hq (wd_ok ho.1.1) (wd_ok ho.1.2) (wd_ok ho.2) (dflt_ok hq) hd H.1.1 H.1.2 (hK.nx hn H.2)
    · cases ho
  · simp only [Bool.and_eq_true, Bool.or_eq_true, decide_eq_true_eq] at hok
    obtain ⟨⟨hn, rfl, rfl, ha⟩, hw⟩ := hok
    split at H
    · obtain ⟨⟨g1, g2⟩, ⟨g3, g4⟩, H⟩ := H
      have hle := clamp_le (m := 65536) (by decide) g2
      have hcb := aty_bytes ha
      exact ev_newa (by rw [arrT_ok ha]; exact wd_ok hw) (arrT_ok ha) ha rfl g1 rfl (Nat.le_trans (Nat.mul_le_mul hle hcb) (by decide)) hd g3 g4 (hK.nx hn H)
    · exact H.elim
  · simp only [Bool.and_eq_true, decide_eq_true_eq] at hok
    obtain ⟨⟨hn, rfl⟩, ho⟩ := hok
    split at H
    · obtain ⟨⟨g1, g2⟩, ⟨g3, g4⟩, H⟩ := H
      have hle := clamp_le (m := 65536) (by decide) g2
      split at ho
      · simp only [Bool.and_eq_true, Bool.or_eq_true, decide_eq_true_eq] at ho
        rcases ho with ⟨rfl, hw⟩ | ⟨rfl, hw⟩
        · exact ev_newr (wd_ok hw) (by decide) rfl g1 rfl (Nat.le_trans (Nat.mul_le_mul hle (Nat.le_refl 4)) (by decide)) hd g3 g4 (hK.nx hn H)
        · exact ev_newr (wd_ok hw) (by decide) rfl g1 rfl (Nat.le_trans (Nat.mul_le_mul hle (Nat.le_refl 4)) (by decide)) hd g3 g4 (hK.nx hn H)
      · cases ho
    · exact H.elim
  · simp only [Bool.and_eq_true, decide_eq_true_eq] at hok
    obtain ⟨⟨hn, rfl⟩, ho⟩ := hok
    split at ho
    · rename_i _ _ q hq
      refine ev_gets hq (wd_ok ho) hd ?_
      split at H
      · obtain ⟨x, hx, H⟩ := H
        rw [hx]
        exact hK.nx hn H
      · obtain ⟨x, hx, H⟩ := H
        rw [hx]
        exact hK.nx hn H
      · exact hK.nx hn H
    · cases ho
  · simp only [Bool.and_eq_true, decide_eq_true_eq] at hok
    obtain ⟨⟨hn, rfl⟩, ho⟩ := hok
    split at ho
    · rename_i _ _ q hq
      split at H
      · split at H
        · obtain ⟨x, hx, H⟩ := H
          refine ev_geto hq (by rw [hx]; exact un_ref x) (wd_ok ho) hd ?_
          rw [hx]
          exact hK.nx hn H
        · obtain ⟨x, hx, H⟩ := H
          refine ev_geto hq (by rw [hx]; exact un_int x) (wd_ok ho) hd ?_
          rw [hx]
          exact hK.nx hn H
      · exact H.elim
    · cases ho
  · simp only [Bool.and_eq_true, decide_eq_true_eq] at hok
    obtain ⟨hn, ho⟩ := hok
    split at ho
    · rename_i _ _ q hq
      simp only [decide_eq_true_eq] at ho
      obtain ⟨q1, q2, q3⟩ := q
      obtain ⟨rfl, rfl, rfl⟩ := ho
      exact ev_ldcS (tx := q3) hq hd (hK.nx hn H)
    · rename_i _ _ q hq
      simp only [decide_eq_true_eq] at ho
      obtain ⟨q1, q2, q3⟩ := q
      obtain ⟨rfl, rfl, rfl⟩ := ho
      exact ev_ldcSw (tx := q3) hq hd (hK.nx hn H)
    · cases ho
  · simp only [Bool.and_eq_true, decide_eq_true_eq] at hok
    obtain ⟨⟨hn, rfl⟩, ho⟩ := hok
    split at H
    · rename_i q n f hcl
      split at ho
      · rename_i q' hq'
        have := cl_map hcl hq'
        subst this
        have hT' := hT _ (List.mem_of_getElem? hcl)
        split at ho
        · simp only [Bool.and_eq_true, decide_eq_true_eq] at ho
          obtain ⟨g1, g2, H⟩ := gs_in H
          obtain ⟨⟨z1, z2⟩, x, hx, H⟩ := gz_in H
          exact st_S hT' ho.2 g1 g2 (wd_ok ho.1) hd hx (fun h1 h2 => ⟨by rw [z1, z2]; exact ⟨h1, h2⟩, fun v h' hp => by
            obtain ⟨e1, rfl⟩ := hp
            cases e1
            rw [z1, z2]
            exact hK.nx hn H, fun E h' hp => by cases hp.1⟩)
        · simp only [Bool.and_eq_true, decide_eq_true_eq] at ho
          split at H
          · contradiction
          · split at H
            · rename_i p s2 hdr
              obtain ⟨g2, H⟩ := gd_in H
              obtain ⟨⟨z1, z2⟩, hrk, x, hx, H⟩ := gz_in H
              exact st_V hT' ho.2 hdr g2 (wd_ok ho.1.1) ho.1.2 hrk hd hx (fun h1 h2 => ⟨by rw [z1, z2]; exact ⟨h1, h2⟩, fun v h' hp => by
                obtain ⟨e1, rfl⟩ := hp
                cases e1
                rw [z1, z2]
                exact hK.nx hn H, fun E h' hp => by cases hp.1⟩)
            · exact H.elim
        · cases ho
      · cases ho
    · exact H.elim
  · simp only [Bool.and_eq_true, decide_eq_true_eq] at hok
    obtain ⟨⟨hn, rfl⟩, ho⟩ := hok
    split at H
    · rename_i q n f hcl
      split at ho
      · rename_i q' hq'
        have := cl_map hcl hq'
        subst this
        have hT' := hT _ (List.mem_of_getElem? hcl)
        split at ho
        · simp only [Bool.and_eq_true, decide_eq_true_eq] at ho
          obtain ⟨g1, g2, P1, hM, H⟩ := gs_in H
          exact st_S hT' ho.2 g1 g2 (wd_ok ho.1) hd hM (kcall_v hK hn H)
        · simp only [Bool.and_eq_true, decide_eq_true_eq] at ho
          split at H
          · contradiction
          · split at H
            · rename_i p s2 hdr
              obtain ⟨g2, hrk, P1, hM, H⟩ := gd_in H
              exact st_V hT' ho.2 hdr g2 (wd_ok ho.1.1) ho.1.2 hrk hd hM (kcall_v hK hn H)
            · exact H.elim
        · cases ho
      · cases ho
    · exact H.elim
  · simp only [Bool.and_eq_true, decide_eq_true_eq] at hok
    obtain ⟨⟨hn, rfl⟩, ho⟩ := hok
    split at H
    · rename_i q n f hcl
      split at ho
      · rename_i q' hq'
        have := cl_map hcl hq'
        subst this
        have hT' := hT _ (List.mem_of_getElem? hcl)
        split at ho
        · simp only [Bool.and_eq_true, decide_eq_true_eq] at ho
          obtain ⟨g1, g2, P1, hM, H⟩ := gs_in H
          exact st_S hT' ho.2 g1 g2 (wd_ok ho.1) hd hM (kcall_i hK hn H)
        · simp only [Bool.and_eq_true, decide_eq_true_eq] at ho
          split at H
          · contradiction
          · split at H
            · rename_i p s2 hdr
              obtain ⟨g2, hrk, P1, hM, H⟩ := gd_in H
              exact st_V hT' ho.2 hdr g2 (wd_ok ho.1.1) ho.1.2 hrk hd hM (kcall_i hK hn H)
            · exact H.elim
        · cases ho
      · cases ho
    · exact H.elim
  · simp only [Bool.and_eq_true, decide_eq_true_eq] at hok
    obtain ⟨⟨hn, rfl⟩, ho⟩ := hok
    split at H
    · rename_i q n f hcl
      split at ho
      · rename_i q' hq'
        have := cl_map hcl hq'
        subst this
        have hT' := hT _ (List.mem_of_getElem? hcl)
        split at ho
        · simp only [Bool.and_eq_true, decide_eq_true_eq] at ho
          obtain ⟨g1, g2, P1, hM, H⟩ := gs_in H
          exact st_S hT' ho.2 g1 g2 (wd_ok ho.1) hd hM (kcall_r hK hn H)
        · simp only [Bool.and_eq_true, decide_eq_true_eq] at ho
          split at H
          · contradiction
          · split at H
            · rename_i p s2 hdr
              obtain ⟨g2, hrk, P1, hM, H⟩ := gd_in H
              exact st_V hT' ho.2 hdr g2 (wd_ok ho.1.1) ho.1.2 hrk hd hM (kcall_r hK hn H)
            · exact H.elim
        · cases ho
      · cases ho
    · exact H.elim
  · simp only [Bool.and_eq_true, decide_eq_true_eq] at hok
    obtain ⟨⟨hn, rfl⟩, ho⟩ := hok
    split at H
    · rename_i q n f hcl
      split at ho
      · rename_i _ _ q' hq'
        have := cl_map hcl hq'
        subst this
        have hT' := hT _ (List.mem_of_getElem? hcl)
        simp only [Bool.and_eq_true, Bool.or_eq_true, decide_eq_true_eq] at ho
        split at H
        · rename_i p s2 hdr
          obtain ⟨g2, P1, hM, H⟩ := gd_in H
          exact st_I hT' ho.2 hdr g2 (ho.1.elim (fun z => Or.inl (wd_ok z)) Or.inr) hd hM (bud_no H) (kcall_c hK hn H)
        · exact H.elim
      · cases ho
    · exact H.elim
  · simp only [Bool.and_eq_true, decide_eq_true_eq] at hok
    obtain ⟨⟨hn, rfl⟩, ho⟩ := hok
    split at H
    · split at ho
      · obtain ⟨g1, H⟩ := gd_in H
        obtain ⟨g2, H⟩ := gp_in H
        exact ev_objInit (wd_ok ho) (wd_ok (k := 169) (by decide +kernel)) (wd_ok (k := 170) (by decide +kernel)) hd g2 g1 (hK.nx hn H)
      · cases ho
    · exact H.elim
  · simp only [Bool.and_eq_true, decide_eq_true_eq] at hok
    obtain ⟨⟨rfl, rfl⟩, ho⟩ := hok
    split at H
    · split at H
      · exact ev_iret (of_decide_eq_true ho) rfl hd H
      · obtain ⟨hx, H⟩ := bret_in H
        exact ev_iret (of_decide_eq_true ho) (narrow_b hx).1 hd H
      · exact ev_iret (of_decide_eq_true ho) H.1 hd H.2
      · rename_i z0 z1 z2
        split at ho
        · exact absurd rfl z0
        · exact absurd rfl z1
        · exact absurd rfl z2
        · exact ev_iret (of_decide_eq_true ho) H.1 hd H.2
    · exact H.elim
  · simp only [Bool.and_eq_true, decide_eq_true_eq] at hok
    obtain ⟨⟨rfl, rfl⟩, ho⟩ := hok
    split at H
    · split at ho
      · rename_i nm' hrt
        exact ev_aret hrt hd H
      · cases ho
    · exact H.elim
  · simp only [decide_eq_true_eq] at hok
    obtain ⟨rfl, rfl, hrt⟩ := hok
    split at H
    · exact ev_vret hrt hd H
    · exact H.elim
  · simp only [Bool.and_eq_true, decide_eq_true_eq] at hok
    obtain ⟨⟨rfl, d3, d4, d7⟩, ho⟩ := hok
    split at ho
    · obtain ⟨g1, H⟩ := gd_in H
      obtain ⟨g2, H⟩ := gp_in H
      split at H
      · rename_i hb
        exact ev_throw hl0 ho hd d3 d4 d7 g2 g1 hb.1 hb.2 H
      · exact H.elim
    · cases ho
  · simp only [Bool.and_eq_true, decide_eq_true_eq] at hok
    obtain ⟨⟨hn, rfl⟩, ho⟩ := hok
    split at H
    · split at ho
      · obtain ⟨g1, H⟩ := gd_in H
        obtain ⟨g2, H⟩ := gp_in H
        obtain ⟨⟨rfl, rfl⟩, ⟨n0, n1, ⟨e0, e1⟩, e2, e3, e4⟩, e5, e6, H⟩ := H
        exact ev_copy (wd_ok ho) (wd_ok (k := 593) (by decide +kernel)) (wd_ok (k := 592) (by decide +kernel)) (wd_ok (k := 145) (by decide +kernel)) e5 e0 e1 e2 e3 e4 e6 g2 g1 hd (hK.nx hn H)
      · cases ho
    · exact H.elim
  · simp only [Bool.and_eq_true, decide_eq_true_eq] at hok
    obtain ⟨⟨hn, rfl⟩, ho⟩ := hok
    split at H
    · split at ho
      · obtain ⟨g1, H⟩ := gd_in H
        obtain ⟨g2, H⟩ := gp_in H
        obtain ⟨n, e1, e2, e3, ⟨e4, e5⟩, H⟩ := H
        exact ev_clone (wd_ok ho) (wd_ok (k := 1007) (by decide +kernel)) (wd_ok (k := 1008) (by decide +kernel)) (wd_ok (k := 1009) (by decide +kernel)) (wd_ok (k := 1010) (by decide +kernel)) e2 e1 e3 g2 g1 e4 e5 hd (hK.nx hn H)
      · cases ho
    · exact H.elim
  · simp only [Bool.and_eq_true, decide_eq_true_eq] at hok
    obtain ⟨⟨hn, rfl⟩, ho⟩ := hok
    split at H
    · split at ho
      · obtain ⟨⟨n, e1, e2⟩, H⟩ := H
        exact ev_castI (wd_ok ho) e2 e1 hd (hK.nx hn H)
      · cases ho
    · exact H.elim
  · simp only [Bool.and_eq_true, decide_eq_true_eq] at hok
    obtain ⟨⟨hn, rfl⟩, ho⟩ := hok
    split at H
    · split at ho
      · obtain ⟨g1, H⟩ := gd_in H
        obtain ⟨g2, H⟩ := gp_in H
        exact ev_mmax (wd_ok ho) hd g2 g1 (hK.nx hn H)
      · cases ho
    · exact H.elim
  · simp only [Bool.and_eq_true, decide_eq_true_eq] at hok
    obtain ⟨⟨hn, rfl⟩, ho⟩ := hok
    split at H
    · split at ho
      · obtain ⟨g1, H⟩ := gd_in H
        obtain ⟨g2, H⟩ := gp_in H
        exact ev_mmin (wd_ok ho) hd g2 g1 (hK.nx hn H)
      · cases ho
    · exact H.elim
  · exact H.elim
