/-! ===== the law's body: what holds between calls; arguments, ends ===== -/
def m_law : Mr := (⟨"GripEstatesLaw", "law", "([I)Z"⟩, code, 7, (some FieldType.boolean), 601024, 7293034, 1312)
def LB (G : Gx) (x : Nat) (tk : Nat → Nat) (b L : Nat) (xs : Nat → Int32) (h : Hp) : Prop := x + 209 ≤ h.2.2 ∧ Old G h tk ∧ LitG G h ∧ h.1 (x + 208) = (104, 1) ∧ h.1 b = (101, L) ∧ ∀ j, j < L → h.2.1 b j = .int (xs j)
abbrev lc (b x i : Nat) : List Value := [.ref b, .ref x, .ref (x + 192), .ref (x + 208), .int (nI i), un, un]
def Nx (G : Gx) (hh : Hd) (x : Nat) (tk : Nat → Nat) (b L : Nat) (xs : Nat → Int32) (i cs ss : Nat) (P : Res → Hp → Prop) : Prop :=
  ∀ h' S' cs' ss', CS G h' x S' → MS G h' (x + 192) S' → AbOk S' → LB G x tk b L xs h' → cs' ≤ cs + 6 → ss' ≤ ss + 847 → EvH G m_law hh 2620 (lc b x i) [] h' cs' ss' P
def dk (p : Nat) (ins : Instr) (n : Nat) : Bool := decide (decode code p = .ok (ins, n))
theorem dk_ok {p : Nat} {ins : Instr} {n : Nat} (h : dk p ins n = true) : decode m_law.2.1 p = .ok (ins, n) := of_decide_eq_true h
def bz (y : Int32) : Int32 := if y = 0 then 0 else 1
section LWB
variable {G : Gx} {hh : Hd} {h h' h1 : Hp} {x b L i k p cs ss : Nat} {tk : Nat → Nat} {xs : Nat → Int32} {S S' : Ab} {es : Int32 → String} {cl : List (String × Int32)} {q : Int32 × Int32} {o : Res} {st Lc : List Value} {P : Res → Hp → Prop}
theorem LB.old (B : LB G x tk b L xs h) (hb : b < G.n0) (hn : h.2.2 ≤ h'.2.2) (s : h'.1 (x + 208) = h.1 (x + 208)) (e : ∀ a, a < G.n0 → h'.1 a = h.1 a ∧ h'.2.1 a = h.2.1 a) : LB G x tk b L xs h' :=
  ⟨Nat.le_trans B.1 hn, B.2.1.keep e, B.2.2.1.keep e, by rw [s]; exact B.2.2.2.1, by rw [(e b hb).1]; exact B.2.2.2.2.1, fun j hj => by rw [(e b hb).2]; exact B.2.2.2.2.2 j hj⟩
theorem LB.gw (B : LB G x tk b L xs h) (hx : G.n0 ≤ x) (hb : b < G.n0) (g : Gw (xZ x) h h') : LB G x tk b L xs h' := by
  have := B.1
  exact B.old hb g.2 (g.1 _ (by omega)).1 (fun a ha => ⟨(g.1 a (by omega)).1, funext fun j => (g.1 a (by omega)).2 j (by unfold xZ; omega)⟩)
theorem LB.fs (B : LB G x tk b L xs h) (hx : G.n0 ≤ x) (hb : b < G.n0) (F : Fs (mZ (x + 192)) h h') : LB G x tk b L xs h' :=
  B.old hb F.2.1 (by rw [F.1]) (fun a ha => ⟨by rw [F.1], funext fun j => F.2.2 a j (by unfold mZ; omega)⟩)
theorem LB.out (B : LB G x tk b L xs h) (hx : G.n0 ≤ x) (hb : b < G.n0) (w : Value) : LB G x tk b L xs (hset h (x + 208) 0 w) :=
  B.old hb (Nat.le_refl _) rfl (fun a ha => ⟨rfl, funext fun j => hs_ne (by omega)⟩)
theorem CS.fs (C : CS G h x S) (F : Fs (mZ (x + 192)) h h') : CS G h' x S := by
  obtain ⟨la, C⟩ := C
  exact ⟨la, C.keep F (fun a j _ _ => by unfold mZ; omega) (fun a j _ => by unfold mZ; omega)⟩
theorem CS.out (C : CS G h x S) (w : Value) : CS G (hset h (x + 208) 0 w) x S := by
  obtain ⟨la, C⟩ := C
  exact ⟨la, C.keep (P := fun a j => a = x + 208) (Fs.rf.set rfl) (fun a j _ _ => by omega) (fun a j _ => by omega)⟩
theorem MS.gw (M : MS G h (x + 192) S) (hN : x + 209 ≤ h.2.2) (g : Gw (xZ x) h h') : MS G h' (x + 192) S :=
  MT.grow M (N := x + 208) (by omega) (fun a ha => ⟨(g.1 a (by omega)).1, fun j hj => (g.1 a (by omega)).2 j (by unfold xZ; omega)⟩)
theorem MS.out (M : MS G h (x + 192) S) (w : Value) : MS G (hset h (x + 208) 0 w) (x + 192) S :=
  MT.keep M (P := fun a j => a = x + 208) (Fs.rf.set rfl) (fun a j _ _ => by omega)
theorem CS.kd (C : CS G h x S) : (h.1 x).1 = 10 := by obtain ⟨la, C⟩ := C; exact C.S.kd
theorem MS.kd (M : MS G h (x + 192) S) : (h.1 (x + 192)).1 = 11 := by rw [M.W.1.1.1]
theorem cc_in {E : String} (kq : Kc cl es q) (z : CC G x h es q S' (.inr E) h') : (E, q.1) ∈ cl := by
  rcases z.1 with ⟨-, e⟩ | ⟨n, e⟩
  · cases e
  · cases e
    rcases kq with k | k
    · exact absurd k n
    · exact k.1
theorem cc_v {v : Option Value} (B : LB G x tk b L xs h) (z : CC G x h es q S' (.inl v) h') : h'.1 (x + 208) = (104, 1) ∧ ∃ y, v = some (.int y) := by
  have := B.1
  refine ⟨by rw [(z.2.1.1 _ (by omega)).1]; exact B.2.2.2.1, ?_⟩
  rcases z.1 with ⟨-, e⟩ | ⟨n, e⟩
  · cases e; exact ⟨_, rfl⟩
  · cases e
theorem cc_vb {v : Option Value} (B : LB G x tk b L xs h) (qb : q.2 = 0 ∨ q.2 = 1) (z : CC G x h es q S' (.inl v) h') : h'.1 (x + 208) = (104, 1) ∧ ∃ y, v = some (.int y) ∧ (y = 0 ∨ y = 1) := by
  have := B.1
  refine ⟨by rw [(z.2.1.1 _ (by omega)).1]; exact B.2.2.2.1, ?_⟩
  rcases z.1 with ⟨-, e⟩ | ⟨n, e⟩
  · cases e; exact ⟨_, rfl, qb⟩
  · cases e
theorem hq_no {Q : Res → Hp → Prop} {ou : Nat} (E : String) (h' : Hp) : ¬ hQ Q ou cl (.inr E) h' := fun z => by
  rcases z with ⟨_, _, _, e, _⟩ | ⟨_, _, _, _, _, e, _⟩ <;> cases e
theorem mm_no (E : String) (h' : Hp) : ¬ MM G (x + 192) h q S (.inr E) h' := fun z => nomatch z.1
theorem mid (hx : G.n0 ≤ x) (hb : b < G.n0) (kq : Kc cl es q) (M : MS G h (x + 192) S) (B : LB G x tk b L xs h) (z : hQ (CC G x h es q S') (x + 208) cl o h1) : o = .inl (some (.int q.1)) ∧ CS G h1 x S' ∧ MS G h1 (x + 192) S ∧ LB G x tk b L xs h1 ∧ (q.1 = 0 → h1.2.1 (x + 208) 0 = .long q.2.toInt64) := by
  rcases z with ⟨y, g, ⟨z1, z2, z3⟩, e, rfl⟩ | ⟨E, k, g, hk, ⟨z1, z2, z3⟩, e, rfl⟩
  · rcases z1 with ⟨q0, e2⟩ | ⟨n, e2⟩
    · cases e2
      exact ⟨by rw [e, q0], z3.out _, (M.gw B.1 z2).out _, (B.gw hx hb z2).out hx hb _, fun _ => hs_eq⟩
    · cases e2
  · rcases z1 with ⟨q0, e2⟩ | ⟨n, e2⟩
    · cases e2
    · cases e2
      have kk : k = q.1 := by
        rcases kq with c | c
        · exact absurd c n
        · exact c.2 _ hk rfl
      exact ⟨by rw [e, kk], z3, M.gw B.1 z2, B.gw hx hb z2, fun c => absurd c n⟩
def argB (p : Nat) (k : Nat) : Bool := dk p (.aload_n 0) 1 && (dk (p + 1) (.iload 4) 2 && (dk (p + 3) (.iconst k) 1 && (dk (p + 4) .iadd 1 && dk (p + 5) .iaload 1)))
theorem la_arg (D : argB p k = true) (hv : Int32.ofInt (k : Int) = nI k) (l0 : Lc[0]? = some (.ref b)) (l4 : Lc[4]? = some (.int (nI i))) (hk : i + k < L) (hL : L ≤ 3072) (B : LB G x tk b L xs h) (K : EvH G m_law hh (p + 6) Lc (.int (xs (i + k)) :: st) h cs ss P) : EvH G m_law hh p Lc st h cs ss P := by
  simp only [argB, Bool.and_eq_true] at D
  obtain ⟨d1, d2, d3, d4, d5⟩ := D
  refine eh_aloadn (i := 0) (j := 0) rfl (dk_ok d1) l0 ?_
  refine eh_iload (dk_ok d2) l4 ?_
  refine eh_iconst (dk_ok d3) hv ?_
  refine eh_iadd (dk_ok d4) ?_
  rw [nI_add]
  refine eh_iald B.2.2.2.2.1 (vp_in_nI hk (by omega)) ?_ (dk_ok d5) K
  rw [nI_clamp (by omega)]
  exact B.2.2.2.2.2 _ hk
def bzB (p : Nat) : Bool := dk p (.ifCond .eq 7) 3 && (dk (p + 3) (.iconst 1) 1 && (dk (p + 4) (.goto 4) 3 && dk (p + 7) (.iconst 0) 1))
theorem la_bz {y : Int32} (D : bzB p = true) (K : EvH G m_law hh (p + 8) Lc (.int (bz y) :: st) h cs ss P) : EvH G m_law hh p Lc (.int y :: st) h cs ss P := by
  simp only [bzB, Bool.and_eq_true] at D
  obtain ⟨d1, d2, d3, d4⟩ := D
  refine eh_if_eq (tgt := p + 7) (dk_ok d1) (by omega) (fun y0 => ?_) (fun y1 => ?_)
  · refine eh_iconst (v := 0) (dk_ok d4) rfl ?_
    rw [bz, if_pos y0] at K
    exact K
  · refine eh_iconst (v := 1) (dk_ok d2) rfl ?_
    refine eh_goto (tgt := p + 8) (dk_ok d3) (by omega) ?_
    rw [bz, if_neg y1] at K
    exact K
theorem lg_self (y : Int64) : lg_cmp y y = 0 := by
  unfold lg_cmp
  rw [if_neg (by simp [Int64.lt_iff_toInt_lt]), if_pos rfl]
def thrB (p : Nat) : Bool := dk p (.aload_n 2) 1 && (dk (p + 1) (.invokevirtual 145) 3 && (dk (p + 4) (.iload 5) 2 && (dk (p + 6) (.if_icmp .eq 5) 3 && dk (p + 11) (.iload 5) 2)))
abbrev l2 (b x i : Nat) (q : Int32 × Int32) : List Value := [.ref b, .ref x, .ref (x + 192), .ref (x + 208), .int (nI i), .int q.1, .int q.2]
theorem la_thr (hl : G.1.stackTraces = false) (D : thrB p = true) (M : MS G h (x + 192) S) (t0 : h.2.1 (x + 192) 0 = .int q.1) (hc : cs ≤ 601024) (hs : ss ≤ 7293034) (K : EvH G m_law hh (p + 13) (l2 b x i q) [.int q.1] h cs ss P) : EvH G m_law hh p (l2 b x i q) [] h cs ss P := by
  simp only [thrB, Bool.and_eq_true] at D
  obtain ⟨d1, d2, d3, d4, d5⟩ := D
  have T : EvI G m_Mo_thrown [.ref (x + 192)] h q.1 := en_Mo_thrown h _ _ (e_Mo_thrown_0 hl h _ _ ⟨_, ⟨M.kd, t0⟩, rfl, rfl⟩)
  refine eh_aloadn (i := 2) (j := 2) rfl (dk_ok d1) rfl ?_
  refine eh_callN (q := m_Mo_thrown) (As := []) (b := x + 192) (st := []) (idx := 145) T (fun E h' z => nomatch z.1) (wd_ok (k := 1579) (by decide +kernel)) (wd_ok (k := 1576) (by decide +kernel)) (wd_ok (k := 144) (by decide +kernel)) (wd_ok (k := 1577) (by decide +kernel)) (wd_ok (k := 1578) (by decide +kernel)) (by show plainB _ 0 = true; decide +kernel) (by decide) (by decide) (Or.inl ⟨10, 25, TX12, rfl, M.kd⟩) (by decide) (dk_ok d2) hc hs (fun v h' z => ?_)
  obtain ⟨e, rfl⟩ := z
  cases e
  refine eh_iload (i := 5) (dk_ok d3) rfl ?_
  refine eh_icmp_eq (tgt := p + 11) (dk_ok d4) (by omega) (fun _ => ?_) (fun n => absurd rfl n)
  exact eh_iload (i := 5) (dk_ok d5) rfl K
def tlB (p : Nat) (off : Int) : Bool := thrB p && (dk (p + 13) (.ifCond .ne 15) 3 && (dk (p + 16) (.aload_n 3) 1 && (dk (p + 17) (.iconst 0) 1 && (dk (p + 18) .laload 1 && (dk (p + 19) (.iload 6) 2 && (dk (p + 21) .i2l 1 && (dk (p + 22) .lcmp 1 && (dk (p + 23) (.ifCond .eq 5) 3 && dk (p + 28) (.goto off) 3))))))))
theorem la_kill (K : EvH G m_law hh 2620 (lc b x i) [] h cs ss P) : EvH G m_law hh 2620 (l2 b x i q) [] h cs ss P := EvH.kill 5 (EvH.kill 6 K)
theorem la_tail (hl : G.1.stackTraces = false) {off : Int} (D : tlB p off = true) (he : ((p + 28 : Nat) : Int) + off = 2620) (M : MS G h (x + 192) S) (B : LB G x tk b L xs h) (t0 : h.2.1 (x + 192) 0 = .int q.1) (w : q.1 = 0 → h.2.1 (x + 208) 0 = .long q.2.toInt64) (hc : cs ≤ 601024) (hs : ss ≤ 7293034) (K : EvH G m_law hh 2620 (lc b x i) [] h cs ss P) : EvH G m_law hh p (l2 b x i q) [] h cs ss P := by
  simp only [tlB, Bool.and_eq_true] at D
  obtain ⟨d0, d1, d2, d3, d4, d5, d6, d7, d8, d9⟩ := D
  have fin : EvH G m_law hh (p + 28) (l2 b x i q) [] h cs ss P := eh_goto (dk_ok d9) he (la_kill K)
  refine la_thr hl d0 M t0 hc hs ?_
  refine eh_if_ne (tgt := p + 28) (dk_ok d1) (by omega) (fun _ => fin) (fun q0 => ?_)
  refine eh_aloadn (i := 3) (j := 3) rfl (dk_ok d2) rfl ?_
  refine eh_iconst (v := 0) (dk_ok d3) rfl ?_
  refine eh_lald B.2.2.2.1 vp01 (w q0) (dk_ok d4) ?_
  refine eh_iload (i := 6) (dk_ok d5) rfl ?_
  refine eh_i2l (dk_ok d6) ?_
  refine eh_lcmp (dk_ok d7) ?_
  rw [lg_self]
  exact eh_if_eq (tgt := p + 28) (dk_ok d8) (by omega) (fun _ => fin) (fun n => absurd rfl n)
def tbB (p : Nat) (off : Int) : Bool := thrB p && (dk (p + 13) (.ifCond .ne 22) 3 && (dk (p + 16) (.aload_n 3) 1 && (dk (p + 17) (.iconst 0) 1 && (dk (p + 18) .laload 1 && (dk (p + 19) (.iload 6) 2 && (dk (p + 21) (.ifCond .eq 7) 3 && (dk (p + 24) (.lconst 1) 1 && (dk (p + 25) (.goto 4) 3 && (dk (p + 28) (.lconst 0) 1 && (dk (p + 29) .lcmp 1 && (dk (p + 30) (.ifCond .eq 5) 3 && dk (p + 35) (.goto off) 3)))))))))))
theorem la_tailb (hl : G.1.stackTraces = false) {off : Int} (D : tbB p off = true) (he : ((p + 35 : Nat) : Int) + off = 2620) (M : MS G h (x + 192) S) (B : LB G x tk b L xs h) (t0 : h.2.1 (x + 192) 0 = .int q.1) (qb : q.2 = 0 ∨ q.2 = 1) (w : q.1 = 0 → h.2.1 (x + 208) 0 = .long q.2.toInt64) (hc : cs ≤ 601024) (hs : ss ≤ 7293034) (K : EvH G m_law hh 2620 (lc b x i) [] h cs ss P) : EvH G m_law hh p (l2 b x i q) [] h cs ss P := by
  simp only [tbB, Bool.and_eq_true] at D
  obtain ⟨d0, d1, d2, d3, d4, d5, d6, d7, d8, d9, d10, d11, d12⟩ := D
  have fin : EvH G m_law hh (p + 35) (l2 b x i q) [] h cs ss P := eh_goto (dk_ok d12) he (la_kill K)
  have go : ∀ y : Int64, EvH G m_law hh (p + 29) (l2 b x i q) [.long y, .long y] h cs ss P := fun y => by
    refine eh_lcmp (dk_ok d10) ?_
    rw [lg_self]
    exact eh_if_eq (tgt := p + 35) (dk_ok d11) (by omega) (fun _ => fin) (fun n => absurd rfl n)
  refine la_thr hl d0 M t0 hc hs ?_
  refine eh_if_ne (tgt := p + 35) (dk_ok d1) (by omega) (fun _ => fin) (fun q0 => ?_)
  refine eh_aloadn (i := 3) (j := 3) rfl (dk_ok d2) rfl ?_
  refine eh_iconst (v := 0) (dk_ok d3) rfl ?_
  refine eh_lald B.2.2.2.1 vp01 (w q0) (dk_ok d4) ?_
  refine eh_iload (i := 6) (dk_ok d5) rfl ?_
  refine eh_if_eq (tgt := p + 28) (dk_ok d6) (by omega) (fun y0 => ?_) (fun y1 => ?_)
  · refine eh_lconst (v := 0) (dk_ok d9) rfl ?_
    have := go 0
    rw [y0]; exact this
  · have e : q.2 = 1 := qb.resolve_left y1
    refine eh_lconst (v := 1) (dk_ok d7) rfl ?_
    refine eh_goto (tgt := p + 29) (dk_ok d8) (by omega) ?_
    have := go 1
    rw [e]; exact this
end LWB
