/-! ===== throw new E() ===== -/
def xnames : List String := ["java/lang/RuntimeException", "java/lang/Exception"]
def xextra : List Cond := casts.map (fun q => Cond.castable q.1 q.2) ++ decls.map Cond.declares
theorem xextra_ok {G : Gx} {s : State} {args : Array Value} (hg : Gok G s) : ∀ w ∈ xextra, w.before args s = true := by
  intro w hw
  rcases List.mem_append.mp hw with hw | hw
  · obtain ⟨q, hq, rfl⟩ := List.mem_map.mp hw
    exact va_Nw.use rfl (hg.2.2.2.2.2.2.2.1 q hq)
  · obtain ⟨q, hq, rfl⟩ := List.mem_map.mp hw
    exact va_Nw.use rfl (hg.2.2.2.2.2.2.2.2.1 q hq)
theorem Rel.more {G : Gx} {h : Hp} {u U : State} {H H1 : Heap} (hR : Rel G h u H) (hvm : u.vm.Alike U.vm) (hsz : H.size ≤ H1.size) (hne : ∀ b, b < H.size → H1[b]? = H[b]?) : Rel G (h.1, h.2.1, H1.size) U H1 := by
  refine ⟨rfl, Nat.le_trans hR.2.1 (by rw [← hR.1]; exact hsz), fun b => ?_⟩
  by_cases hlt : b < H.size
  · exact ((hR.2.2 b).kept (hne b hlt)).moved hvm
  · have hnone : H[b]? = none := by simpa using Nat.le_of_not_lt hlt
    refine ⟨fun h8 h9 => ?_, fun h9 => ?_⟩
    · obtain ⟨r, -, -, cell, z, -⟩ := (hR.2.2 b).1 h8 h9
      rw [hnone] at z; cases z
    · obtain ⟨cell, z, -⟩ := (hR.2.2 b).2 h9
      rw [hnone] at z; cases z
def xOK (own : String) (ik ic : Nat) (E : String) : Bool :=
  Bundle.fit E && (vx_at0 own ic E xnames).all (fun w => vx_ot w && (if goodWord w then decide (w ∈ lw_good) else decide (w ∈ xextra))) && vx_ot (Cond.classLink own ik E) && vx_ot (Cond.initialized E) && decide (Cond.classLink own ik E ∈ lw_good) && decide (Cond.initialized E ∈ lw_good)
section EVT
variable {G : Gx} {r : Mr} {pc : Nat} {L st : List Value} {h : Hp} {cs ss : Nat} {Post : Res → Hp → Prop}
theorem ev_throw {ik ic : Nat} {E : String} (hl0 : G.1.stackTraces = false) (hok : xOK r.1.cls ik ic E = true) (d0 : decode r.2.1 pc = .ok (.new ik, 3)) (d3 : decode r.2.1 (pc + 3) = .ok (.dup, 1)) (d4 : decode r.2.1 (pc + 4) = .ok (.invokespecial ic, 3)) (d7 : decode r.2.1 (pc + 7) = .ok (.athrow, 1))
    (hdp : 6 ≤ r.dp) (hst : (st.map fun v => v.category).sum ≤ 8) (hcs : cs + 1 ≤ r.mc) (hss : ss + 6 ≤ r.ms) (k : ∀ n', h.2.2 ≤ n' → Post (.inr E) (h.1, h.2.1, n')) : Ev G r pc L st h cs ss Post := by
  intro p e s m args below meth c ls H locs F hl hR hS h1 h2
  have hts := F.2.2.2.2.2.1
  have hg := F.2.2.2.2.2.2.2.2.1
  simp only [xOK, Bool.and_eq_true, List.all_eq_true, decide_eq_true_eq] at hok
  obtain ⟨⟨⟨⟨⟨o1, o2⟩, o3⟩, o4⟩, o5⟩, o6⟩ := hok
  refine vx_throw0 (names := xnames) (A := nw G) F.1 F.2.1 hl0 F.2.2.2.2.1 o1 (by decide) (hts _ o5) (hts _ o6) (fun w hw => ?_) (fun w hw => ?_) hg.2.2.2.2.2.2.2.2.2.2.2.1 hg.2.2.2.2.2.2.2.2.2.2.2.2 hS (by rw [F.2.2.2.1]; exact hl.1) d0 d3 d4 d7
    (fun x hx => (F.2.2.2.2.2.2.2.2.2 x hx).elim) ?_ ?_ hcs hss F.2.2.2.2.2.2.1 (fun t hA hz hk => ?_) hS.2.2 hcs hss
  · have := (o2 w hw).2
    split at this
    · exact hts w (of_decide_eq_true this)
    · exact xextra_ok hg w (of_decide_eq_true this)
  · rcases List.mem_cons.mp hw with rfl | hw
    · exact o3
    · rcases List.mem_cons.mp hw with rfl | hw
      · exact o4
      · exact (o2 w hw).1
  · show 2 + 3 < r.dp
    omega
  · show _ + (13 * (2 + 1) + 42) ≤ 64 * r.dp
    omega
  · exact ⟨_, k t.heap.size (by rw [← hR.1]; exact hz), hR.more hA hz hk, Nat.le_trans hS.1 hz, fun q y1 y2 => (hk q (Nat.lt_of_lt_of_le y1 hS.1)).trans (hS.2.1 q y1 y2)⟩
end EVT
set_option maxRecDepth 100000 in
theorem xtest : xOK "GripEstates" 213 215 "java/lang/IllegalArgumentException" = xOK "GripEstates" 213 215 "java/lang/IllegalArgumentException" := rfl
