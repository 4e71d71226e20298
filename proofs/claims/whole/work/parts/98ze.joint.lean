/-! ===== both sides of every call (printed by wip/whole/jgen.py) ===== -/
/-- the valley, its law, the law's lines, the image, the past, how much of it; the bytes told, how many; the fault's place -/
abbrev Ab : Type := Vs × Tt × Int32 × Option Sv × (Nat → Vs) × Nat × (Nat → Nat) × Nat × Int32
abbrev Ab.A (S : Ab) : Vs := S.1
abbrev Ab.T (S : Ab) : Tt := S.2.1
abbrev Ab.ln (S : Ab) : Int32 := S.2.2.1
abbrev Ab.im (S : Ab) : Option Sv := S.2.2.2.1
abbrev Ab.pa (S : Ab) : Nat → Vs := S.2.2.2.2.1
abbrev Ab.r (S : Ab) : Nat := S.2.2.2.2.2.1
abbrev Ab.b (S : Ab) : Nat → Nat := S.2.2.2.2.2.2.1
abbrev Ab.n (S : Ab) : Nat := S.2.2.2.2.2.2.2.1
abbrev Ab.fl (S : Ab) : Int32 := S.2.2.2.2.2.2.2.2
def CS (G : Gx) (h : Hp) (x : Nat) (S : Ab) : Prop := ∃ la, CT G h x la S.A S.T S.ln S.im S.pa S.r S.b S.n S.fl
def MS (G : Gx) (h : Hp) (m : Nat) (S : Ab) : Prop := MT G h m S.A S.T S.ln S.im S.pa S.r S.b S.n S.fl
def AbOk (S : Ab) : Prop := Wf S.A ∧ (∀ i, i < S.r → Wf (S.pa i)) ∧ ∀ q, S.im = some q → Wf q.1
def CC (G : Gx) (x : Nat) (h : Hp) (es : Int32 → String) (q : Int32 × Int32) (S : Ab) : Res → Hp → Prop := fun o h' => ((q.1 = 0 ∧ o = .inl (some (.int q.2))) ∨ (¬ q.1 = 0 ∧ o = .inr (es q.1))) ∧ Gw (xZ x) h h' ∧ CS G h' x S
def MM (G : Gx) (m : Nat) (h : Hp) (q : Int32 × Int32) (S : Ab) : Res → Hp → Prop := fun o h' => o = .inl (some (.int q.2)) ∧ h'.2.1 m 0 = .int q.1 ∧ Fs (mZ m) h h' ∧ MS G h' m S
def CP (G : Gx) (x : Nat) (h : Hp) (v : Option Value) (S : Ab) : Res → Hp → Prop := fun o h' => o = .inl v ∧ Gw (xZ x) h h' ∧ CS G h' x S
def MP (G : Gx) (m : Nat) (h : Hp) (v : Option Value) (S : Ab) : Res → Hp → Prop := fun o h' => o = .inl v ∧ Fs (mZ m) h h' ∧ MS G h' m S
/-- a code is the number of its class -/
def Kc (cs : List (String × Int32)) (es : Int32 → String) (q : Int32 × Int32) : Prop := q.1 = 0 ∨ ((es q.1, q.1) ∈ cs ∧ ∀ p ∈ cs, p.1 = es q.1 → p.2 = q.1)
/-- a call that may throw -/
def JointT (G : Gx) (x : Nat) (tk : Nat → Nat) (es : Int32 → String) (cs : List (String × Int32)) (C M : Mr) (as : List Value) : Prop :=
  ∀ h S, CS G h x S → AbOk S → x + 209 ≤ h.2.2 → Old G h tk → ∃ q S', Kc cs es q ∧ AbOk S' ∧ EvM G C (.ref x :: as) h (CC G x h es q S') ∧ ∀ h1, MS G h1 (x + 192) S → Old G h1 tk → LitG G h1 → EvM G M (.ref (x + 192) :: as) h1 (MM G (x + 192) h1 q S')
/-- the same, of a boolean -/
def JointB (G : Gx) (x : Nat) (tk : Nat → Nat) (es : Int32 → String) (cs : List (String × Int32)) (C M : Mr) (as : List Value) : Prop :=
  ∀ h S, CS G h x S → AbOk S → x + 209 ≤ h.2.2 → Old G h tk → ∃ q S', Kc cs es q ∧ (q.2 = 0 ∨ q.2 = 1) ∧ AbOk S' ∧ EvM G C (.ref x :: as) h (CC G x h es q S') ∧ ∀ h1, MS G h1 (x + 192) S → Old G h1 tk → LitG G h1 → EvM G M (.ref (x + 192) :: as) h1 (MM G (x + 192) h1 q S')
/-- a call that does not throw -/
def JointP (G : Gx) (x : Nat) (tk : Nat → Nat) (C M : Mr) (as : List Value) (i : Bool) : Prop :=
  ∀ h S, CS G h x S → AbOk S → x + 209 ≤ h.2.2 → Old G h tk → ∃ v S', (match i with | true => ∃ y, v = some (.int y) | false => v = none) ∧ AbOk S' ∧ EvM G C (.ref x :: as) h (CP G x h v S') ∧ ∀ h1, MS G h1 (x + 192) S → Old G h1 tk → LitG G h1 → EvM G M (.ref (x + 192) :: as) h1 (MP G (x + 192) h1 v S')
def ra (S : Ab) (R : Ra) : Ab := match R.2 with
  | none => S
  | some A' => ((A', S.T, S.ln, S.im, pcons S.A S.pa, min (S.r + 1) 12, S.b, S.n, S.fl) : Ab)
section JNT
variable {G : Gx} {h h' : Hp} {x m la : Nat} {S : Ab} {es : Int32 → String} {tk : Nat → Nat} {o : Res} {q : Int32 × Int32} {cs : List (String × Int32)}
theorem aX_Z (F : Fs (aX x) h h') : Fs (xZ x) h h' := F.mono (fun a j z => by unfold aX at z; unfold xZ; omega)
theorem mA_Z (F : Fs (mA m) h h') : Fs (mZ m) h h' := F.mono (fun a j z => by unfold mA at z; unfold mZ; omega)
theorem mU_Zj (F : Fs (mU m) h h') : Fs (mZ m) h h' := mA_Z (F.mono (fun _ _ => mU_A))
theorem nF_Z {P : Nat → Nat → Prop} (F : Fs nF h h') : Fs P h h' := F.mono (fun a j z => z.elim)
theorem ra_ok {R : Ra} (K : AbOk S) (k : RaOk R) : AbOk (ra S R) := by
  unfold ra
  split
  · exact K
  · rename_i A' e
    refine ⟨k A' e, fun i hi => ?_, K.2.2⟩
    show Wf (pcons S.A S.pa i)
    cases i with
    | zero => exact K.1
    | succ i => exact K.2.1 i (by have : i + 1 < min (S.r + 1) 12 := hi; omega)
theorem ca_cc {R : Ra} (C : CT G h x la S.A S.T S.ln S.im S.pa S.r S.b S.n S.fl) (z : CA G h x la S.A S.T S.ln S.im S.pa S.r es R o h') : CC G x h es R.1 (ra S R) o h' := by
  obtain ⟨⟨F, z1⟩, z2⟩ := z
  refine ⟨z1, (aX_Z F).gw, la, ?_⟩
  obtain ⟨R1, R2⟩ := R
  cases R2 with
  | none => exact C.act z2 F
  | some A' => exact C.act z2 F
theorem ma_mm {R : Ra} (X : MS G h m S) (z : MA G h m S.A S.T S.ln S.im S.pa S.r R o h') : MM G m h R.1 (ra S R) o h' := by
  obtain ⟨z1, z2, F, z3⟩ := z
  refine ⟨z1, z2, mA_Z F, ?_⟩
  obtain ⟨R1, R2⟩ := R
  cases R2 with
  | none => exact MT.act X z3 F
  | some A' => exact MT.act X z3 F
theorem cn_cc (C : CT G h x la S.A S.T S.ln S.im S.pa S.r S.b S.n S.fl) (z : cans es nF h q o h') : CC G x h es q S o h' := ⟨z.2, (nF_Z z.1 : Fs (xZ x) h h').gw, la, C.nx z.1⟩
theorem mn_mm (X : MS G h m S) (z : mans m h S.A q o h') : MM G m h q S o h' := ⟨z.1, z.2.2.1, mU_Zj z.2.2.2, MT.rd X z.2.1 z.2.2.2⟩
theorem cq_cc {n' : Nat} {fl' : Int32} (z : CQ G h x la S.A S.T S.ln S.im S.pa S.r S.b n' fl' es q o h') : CC G x h es q ((S.A, S.T, S.ln, S.im, S.pa, S.r, S.b, n', fl') : Ab) o h' := ⟨z.1.2, z.1.1.gw, la, z.2⟩
theorem mq_mm {n' : Nat} {fl' : Int32} (z : MQt G h m S.A S.T S.ln S.im S.pa S.r S.b n' fl' q o h') : MM G m h q ((S.A, S.T, S.ln, S.im, S.pa, S.r, S.b, n', fl') : Ab) o h' := ⟨z.1, z.2.1, z.2.2.2, z.2.2.1⟩
theorem ev_cp {y : Int32} (C : CS G h x S) (z : o = .inl (some (.int y)) ∧ h' = h) : CP G x h (some (.int y)) S o h' := by
  obtain ⟨z1, rfl⟩ := z
  exact ⟨z1, (Fs.rf (P := xZ x)).gw, C⟩
theorem mm_mp (z : MM G m h q S o h') : MP G m h (some (.int q.2)) S o h' := ⟨z.1, z.2.2.1, z.2.2.2⟩
theorem CT.actL {A A' : Vs} {T T' : Tt} {ln ln' : Int32} {im im' : Option Sv} {pa pa' : Nat → Vs} {r r' li : Nat} {b : Nat → Nat} {n : Nat} {fl : Int32} (C : CT G h x la A T ln im pa r b n fl) (C' : CVl G h' x li A' T' ln' im' pa' r') (F : Fs (aX x) h h') : CT G h' x li A' T' ln' im' pa' r' b n fl := by
  obtain ⟨-, ⟨u, Tp⟩, S, e⟩ := C
  exact ⟨C', ⟨u, Tp.keep F (fun a j z => by unfold aX; omega)⟩, S.keep (fun a _ _ => by rw [F.1]) (fun a j z => F.2.2 a j (by unfold xR at z; unfold aX; omega)), by rw [F.2.2 x 12 (by unfold aX; omega)]; exact e⟩
theorem MT.actL {A A' : Vs} {T T' : Tt} {ln ln' : Int32} {im im' : Option Sv} {pa pa' : Nat → Vs} {r r' : Nat} {b : Nat → Nat} {n : Nat} {fl : Int32} (X : MT G h m A T ln im pa r b n fl) (M' : MV G h' m A' T' ln' im' pa' r') (F : Fs (mA m) h h') : MT G h' m A' T' ln' im' pa' r' b n fl := by
  obtain ⟨-, ⟨e, Tp⟩, q⟩ := X
  exact ⟨M', ⟨e, Tp.keep F (fun a j z => by unfold mA; omega)⟩, by rw [F.2.2 m 14 (by unfold mA; omega)]; exact q⟩
theorem kc0 {y : Int32} : Kc cs es (0, y) := Or.inl rfl
end JNT
theorem valS_wf {A A' : Vs} {b : Nat → Nat} {n : Nat} (F : Wf A) (e : valS A b n = some A') : Wf A' := by
  unfold valS at e
  cases e2 : (valV A b n).2 with
  | none => rw [e2] at e; cases e
  | some A1 =>
    rw [e2] at e
    simp only at e
    split at e
    · rename_i c
      cases e
      have w1 : Wf A1 := valV_wf (q' := (valV A b n).1) F (by rw [← e2])
      obtain ⟨k, hk, ek⟩ := F.2.2.2.2.2.2
      refine w1.texts ⟨k + 1, ?_, ?_⟩
      · have : nI k < nI 12 := by rw [← ek]; exact c
        by_cases c3 : k = 12
        · subst c3; exact absurd this (by decide)
        · omega
      · rw [valV_06 e2, ek]; exact (nI_succ k).symm
    · cases e
section JNS
variable {G : Gx} {x : Nat} {tk : Nat → Nat}
theorem hm_ (hx : G.n0 ≤ x) : G.n0 ≤ x + 192 := Nat.le_trans hx (Nat.le_add_right _ _)

theorem j_nights (hl : G.1.stackTraces = false) (hx : G.n0 ≤ x) (n : Int32) : JointT G x tk (es3 0 0 0) cs_Lw_nights m_Gr_nights m_Mo_nights [.int n] := by
  intro h S ⟨la, C⟩ K hN O
  refine ⟨(aNights S.T S.A n).1, ra S (aNights S.T S.A n), ?_, ra_ok K (ok_nights K.1 n), (c_nights hl hx C.1 K.1 n).post (fun o h' z => ca_cc C z), fun h1 X O1 Lg => (p_nights hl (hm_ hx) X.1 K.1 n).post (fun o h' z => ma_mm X z)⟩
  · unfold aNights no_ yes_
    repeat' split
    all_goals first | exact Or.inl rfl | exact Or.inr (by decide)
theorem j_lay (hl : G.1.stackTraces = false) (hx : G.n0 ≤ x) (t p : Int32) : JointT G x tk (es3 2 1 1) cs_Lw_lay m_Gr_lay m_Mo_lay [.int t, .int p] := by
  intro h S ⟨la, C⟩ K hN O
  refine ⟨(aLay S.A t p).1, ra S (aLay S.A t p), ?_, ra_ok K (ok_lay K.1 t p), (c_lay hl hx C.1 K.1 t p).post (fun o h' z => ca_cc C z), fun h1 X O1 Lg => (p_lay hl (hm_ hx) X.1 K.1 t p).post (fun o h' z => ma_mm X z)⟩
  · unfold aLay no_ yes_
    repeat' split
    all_goals first | exact Or.inl rfl | exact Or.inr (by decide)
theorem j_clear (hl : G.1.stackTraces = false) (hx : G.n0 ≤ x) (t : Int32) : JointT G x tk (es3 2 1 1) cs_Lw_clear m_Gr_clear m_Mo_clear [.int t] := by
  intro h S ⟨la, C⟩ K hN O
  refine ⟨(aClear S.A t).1, ra S (aClear S.A t), ?_, ra_ok K (ok_clear K.1 t), (c_clear hl hx C.1 K.1 t).post (fun o h' z => ca_cc C z), fun h1 X O1 Lg => (p_clear hl (hm_ hx) X.1 K.1 t).post (fun o h' z => ma_mm X z)⟩
  · unfold aClear no_ yes_
    repeat' split
    all_goals first | exact Or.inl rfl | exact Or.inr (by decide)
theorem j_wake (hl : G.1.stackTraces = false) (hx : G.n0 ≤ x) (t : Int32) : JointT G x tk (es3 2 1 1) cs_Lw_wake m_Gr_wake m_Mo_wake [.int t] := by
  intro h S ⟨la, C⟩ K hN O
  refine ⟨(aWake S.T S.A t).1, ra S (aWake S.T S.A t), ?_, ra_ok K (ok_wake K.1 t), (c_wake hl hx C.1 K.1 t).post (fun o h' z => ca_cc C z), fun h1 X O1 Lg => (p_wake hl (hm_ hx) X.1 K.1 t).post (fun o h' z => ma_mm X z)⟩
  · unfold aWake no_ yes_
    repeat' split
    all_goals first | exact Or.inl rfl | exact Or.inr (by decide)
theorem j_open (hl : G.1.stackTraces = false) (hx : G.n0 ≤ x) (p : Int32) : JointT G x tk (es3 2 1 1) cs_Lw_open m_Gr_open m_Mo_open [.int p] := by
  intro h S ⟨la, C⟩ K hN O
  refine ⟨(aOpen S.A p).1, ra S (aOpen S.A p), ?_, ra_ok K (ok_open K.1 p), (c_open hl hx C.1 K.1 p).post (fun o h' z => ca_cc C z), fun h1 X O1 Lg => (p_open hl (hm_ hx) X.1 K.1 p).post (fun o h' z => ma_mm X z)⟩
  · unfold aOpen no_ yes_
    repeat' split
    all_goals first | exact Or.inl rfl | exact Or.inr (by decide)
theorem j_swap (hl : G.1.stackTraces = false) (hx : G.n0 ≤ x) (p q : Int32) : JointT G x tk (es3 2 0 1) cs_Lw_swap m_Gr_swap m_Mo_swap [.int p, .int q] := by
  intro h S ⟨la, C⟩ K hN O
  refine ⟨(aSwap S.A p q).1, ra S (aSwap S.A p q), ?_, ra_ok K (ok_swap K.1 p q), (c_swap hl hx C.1 K.1 p q).post (fun o h' z => ca_cc C z), fun h1 X O1 Lg => (p_swap hl (hm_ hx) X.1 K.1 p q).post (fun o h' z => ma_mm X z)⟩
  · unfold aSwap no_ yes_
    repeat' split
    all_goals first | exact Or.inl rfl | exact Or.inr (by decide)
theorem j_heir (hl : G.1.stackTraces = false) (hx : G.n0 ≤ x) (p q : Int32) : JointT G x tk (es3 2 0 0) cs_Lw_heir m_Gr_heir m_Mo_heir [.int p, .int q] := by
  intro h S ⟨la, C⟩ K hN O
  refine ⟨(aHeir S.A p q).1, ra S (aHeir S.A p q), ?_, ra_ok K (ok_heir K.1 p q), (c_heir hl hx C.1 K.1 p q).post (fun o h' z => ca_cc C z), fun h1 X O1 Lg => (p_heir hl (hm_ hx) X.1 K.1 p q).post (fun o h' z => ma_mm X z)⟩
  · unfold aHeir no_ yes_
    repeat' split
    all_goals first | exact Or.inl rfl | exact Or.inr (by decide)
theorem j_born (hl : G.1.stackTraces = false) (hx : G.n0 ≤ x) (g : Int32) : JointT G x tk (es3 0 1 1) cs_Lw_born m_Gr_born m_Mo_born [.int g] := by
  intro h S ⟨la, C⟩ K hN O
  refine ⟨(aBorn S.A g).1, ra S (aBorn S.A g), ?_, ra_ok K (ok_born K.1 g), (c_born hl hx C.1 K.1 g).post (fun o h' z => ca_cc C z), fun h1 X O1 Lg => (p_born hl (hm_ hx) X.1 K.1 g).post (fun o h' z => ma_mm X z)⟩
  · unfold aBorn no_ yes_
    repeat' split
    all_goals first | exact Or.inl rfl | exact Or.inr (by decide)
theorem j_give (hl : G.1.stackTraces = false) (hx : G.n0 ≤ x) (t p : Int32) : JointT G x tk (es3 2 1 1) cs_Lw_give m_Gr_give m_Mo_give [.int t, .int p] := by
  intro h S ⟨la, C⟩ K hN O
  refine ⟨(aGive S.A t p).1, ra S (aGive S.A t p), ?_, ra_ok K (ok_give K.1 t p), (c_give hl hx C.1 K.1 t p).post (fun o h' z => ca_cc C z), fun h1 X O1 Lg => (p_give hl (hm_ hx) X.1 K.1 t p).post (fun o h' z => ma_mm X z)⟩
  · unfold aGive no_ yes_
    repeat' split
    all_goals first | exact Or.inl rfl | exact Or.inr (by decide)
theorem j_tie (hl : G.1.stackTraces = false) (hx : G.n0 ≤ x) (p b : Int32) : JointB G x tk (es3 2 2 2) cs_Lw_tie m_Gr_tie m_Mo_tie [.int p, .int b] := by
  intro h S ⟨la, C⟩ K hN O
  refine ⟨(aTie S.A p b).1, ra S (aTie S.A p b), ?_, ?_, ra_ok K (ok_tie K.1 p b), (c_tie hl hx C.1 K.1 p b).post (fun o h' z => ca_cc C z), fun h1 X O1 Lg => (p_tie hl (hm_ hx) X.1 K.1 p b).post (fun o h' z => ma_mm X z)⟩
  · unfold aTie no_ yes_
    repeat' split
    all_goals first | exact Or.inl rfl | exact Or.inr (by decide)
  · unfold aTie no_ yes_
    repeat' split
    all_goals first | exact Or.inl rfl | exact Or.inr rfl
theorem j_ahead (hl : G.1.stackTraces = false) (hx : G.n0 ≤ x) (p n : Int32) : JointT G x tk (es3 2 0 0) cs_Lw_ahead m_Gr_ahead m_Mo_ahead [.int p, .int n] := by
  intro h S ⟨la, C⟩ K hN O
  refine ⟨_, _, ?_, K, (c_ahead hl hx C.1 K.1 p n).post (fun o h' z => ca_cc C z), fun h1 X O1 Lg => (p_ahead hl (hm_ hx) X.1 K.1 p n).post (fun o h' z => ma_mm X z)⟩
  unfold anP anN
  repeat' split
  all_goals first | exact Or.inl rfl | exact Or.inr (by decide)
theorem j_trial (hl : G.1.stackTraces = false) (hx : G.n0 ≤ x) (n b : Int32) : JointT G x tk (es3 0 0 0) cs_Lw_trial m_Gr_trial m_Mo_trial [.int n, .int b] := by
  intro h S ⟨la, C⟩ K hN O
  refine ⟨_, _, ?_, K, (c_trial hl hx C.1 K.1 n b).post (fun o h' z => ca_cc C z), fun h1 X O1 Lg => (p_trial hl (hm_ hx) X.1 K.1 n b).post (fun o h' z => ma_mm X z)⟩
  unfold anN
  repeat' split
  all_goals first | exact Or.inl rfl | exact Or.inr (by decide)
theorem j_span (hl : G.1.stackTraces = false) (hx : G.n0 ≤ x) (n b : Int32) : JointT G x tk (es3 0 0 0) cs_Lw_span m_Gr_span m_Mo_span [.int n, .int b] := by
  intro h S ⟨la, C⟩ K hN O
  refine ⟨_, _, ?_, K, (c_span hl hx C.1 K.1 n b).post (fun o h' z => ca_cc C z), fun h1 X O1 Lg => (p_span hl (hm_ hx) X.1 K.1 n b).post (fun o h' z => ma_mm X z)⟩
  unfold anN
  repeat' split
  all_goals first | exact Or.inl rfl | exact Or.inr (by decide)
theorem j_thing (hl : G.1.stackTraces = false) (hx : G.n0 ≤ x) (t w : Int32) : JointT G x tk (es3 2 4 4) cs_Lw_thing m_Gr_thing m_Mo_thing [.int t, .int w] := by
  intro h S ⟨la, C⟩ K hN O
  refine ⟨_, S, ?_, K, (c_thing hl ⟨C.S.kd, C.S.1.2.2.2.2.2.2.1⟩ C.V K.1 t w).post (fun o h' z => cn_cc C z), fun h1 X O1 Lg => (p_thing hl (hm_ hx) X.W K.1 t w).post (fun o h' z => mn_mm X z)⟩
  unfold anT anN
  repeat' split
  all_goals first | exact Or.inl rfl | exact Or.inr (by decide)
theorem j_shuts (hl : G.1.stackTraces = false) (hx : G.n0 ≤ x) (p t : Int32) : JointT G x tk (es3 2 2 2) cs_Lw_shuts m_Gr_shuts m_Mo_shuts [.int p, .int t] := by
  intro h S ⟨la, C⟩ K hN O
  refine ⟨_, S, ?_, K, (c_shuts hl ⟨C.S.kd, C.S.1.2.2.2.2.2.2.1⟩ C.V K.1 C.1.L.1 p t).post (fun o h' z => cn_cc C z), fun h1 X O1 Lg => (p_shuts hl (hm_ hx) X.W K.1 X.1.L p t).post (fun o h' z => mn_mm X z)⟩
  unfold anP anT
  repeat' split
  all_goals first | exact Or.inl rfl | exact Or.inr (by decide)
theorem j_hoard (hl : G.1.stackTraces = false) (hx : G.n0 ≤ x) (p w b : Int32) : JointT G x tk (es3 2 0 0) cs_Lw_hoard m_Gr_hoard m_Mo_hoard [.int p, .int w, .int b] := by
  intro h S ⟨la, C⟩ K hN O
  refine ⟨_, S, ?_, K, (c_hoard hl ⟨C.S.kd, C.S.1.2.2.2.2.2.2.1⟩ C.V K.1 p w b).post (fun o h' z => cn_cc C z), fun h1 X O1 Lg => (p_hoard hl (hm_ hx) X.W K.1 p w b).post (fun o h' z => mn_mm X z)⟩
  unfold anP anN
  repeat' split
  all_goals first | exact Or.inl rfl | exact Or.inr (by decide)
theorem j_rests (hl : G.1.stackTraces = false) (hx : G.n0 ≤ x) (p : Int32) : JointT G x tk (es3 2 2 2) cs_Lw_rests m_Gr_rests m_Mo_rests [.int p] := by
  intro h S ⟨la, C⟩ K hN O
  refine ⟨_, S, ?_, K, (c_rests hl ⟨C.S.kd, C.S.1.2.2.2.2.2.2.1⟩ C.V K.1 p).post (fun o h' z => cn_cc C z), fun h1 X O1 Lg => (p_rests hl (hm_ hx) X.W K.1 p).post (fun o h' z => mn_mm X z)⟩
  unfold anP
  repeat' split
  all_goals first | exact Or.inl rfl | exact Or.inr (by decide)
theorem j_odds (hl : G.1.stackTraces = false) (hx : G.n0 ≤ x) (n : Int32) : JointT G x tk (es3 0 0 0) cs_Lw_odds m_Gr_odds m_Mo_odds [.int n] := by
  intro h S ⟨la, C⟩ K hN O
  refine ⟨_, S, ?_, K, (c_odds hl ⟨C.S.kd, C.S.1.2.2.2.2.2.2.1⟩ C.V K.1 C.1.L.1 n).post (fun o h' z => cn_cc C z), fun h1 X O1 Lg => (p_odds hl (hm_ hx) X.W K.1 X.1.L n).post (fun o h' z => mn_mm X z)⟩
  unfold anN
  repeat' split
  all_goals first | exact Or.inl rfl | exact Or.inr (by decide)
theorem j_most (hl : G.1.stackTraces = false) (hx : G.n0 ≤ x) (w : Int32) : JointT G x tk (es3 4 4 4) cs_Lw_most m_Gr_most m_Mo_most [.int w] := by
  intro h S ⟨la, C⟩ K hN O
  refine ⟨_, S, ?_, K, (c_most hl ⟨C.S.kd, C.S.1.2.2.2.2.2.2.1⟩ C.V K.1 C.1.L.1 w).post (fun o h' z => cn_cc C z), fun h1 X O1 Lg => (p_most hl (hm_ hx) X.W K.1 X.1.L w).post (fun o h' z => mn_mm X z)⟩
  unfold anN
  repeat' split
  all_goals first | exact Or.inl rfl | exact Or.inr (by decide)
theorem j_led (hl : G.1.stackTraces = false) (hx : G.n0 ≤ x) (p b : Int32) : JointT G x tk (es3 2 2 2) cs_Lw_led m_Gr_led m_Mo_led [.int p, .int b] := by
  intro h S ⟨la, C⟩ K hN O
  refine ⟨_, S, ?_, K, (c_led hl ⟨C.S.kd, C.S.1.2.2.2.2.2.2.1⟩ C.V K.1 p b).post (fun o h' z => cn_cc C z), fun h1 X O1 Lg => (p_led hl (hm_ hx) X.W K.1 p b).post (fun o h' z => mn_mm X z)⟩
  unfold anP
  repeat' split
  all_goals first | exact Or.inl rfl | exact Or.inr (by decide)
theorem j_log (hl : G.1.stackTraces = false) (hx : G.n0 ≤ x) (ago w : Int32) : JointT G x tk (es3 4 4 4) cs_Lw_log m_Gr_log m_Mo_log [.int ago, .int w] := by
  intro h S ⟨la, C⟩ K hN O
  refine ⟨_, S, ?_, K, (c_log hl ⟨C.S.kd, C.S.1.2.2.2.2.2.2.1⟩ C.V ago w).post (fun o h' z => cn_cc C z), fun h1 X O1 Lg => (p_log hl (hm_ hx) X.W K.1 ago w).post (fun o h' z => mn_mm X z)⟩
  unfold anN
  repeat' split
  all_goals first | exact Or.inl rfl | exact Or.inr (by decide)
theorem j_person (hl : G.1.stackTraces = false) (hx : G.n0 ≤ x) (p w : Int32) : JointT G x tk (es3 2 4 4) cs_Lw_person m_Gr_person m_Mo_person [.int p, .int w] := by
  intro h S ⟨la, C⟩ K hN O
  refine ⟨_, ((S.A, S.T, S.ln, S.im, S.pa, S.r, S.b, S.n, S.fl) : Ab), ?_, ⟨K.1, K.2.1, K.2.2⟩, (c_person hl hx C K.1 p w).post (fun o h' z => cq_cc z), fun h1 X O1 Lg => (p_person hl (hm_ hx) X K.1 p w).post (fun o h' z => mq_mm z)⟩
  unfold perQ anP anN
  repeat' split
  all_goals first | exact Or.inl rfl | exact Or.inr (by decide)
theorem j_put (hl : G.1.stackTraces = false) (hx : G.n0 ≤ x) (p : Int32) : JointT G x tk (es3 2 2 2) cs_Lw_put m_Gr_put m_Mo_put [.int p] := by
  intro h S ⟨la, C⟩ K hN O
  refine ⟨_, ((S.A, S.T, S.ln, S.im, S.pa, S.r, S.b, S.n, S.fl) : Ab), ?_, ⟨K.1, K.2.1, K.2.2⟩, (c_put hl hx C K.1 p).post (fun o h' z => cq_cc z), fun h1 X O1 Lg => (p_put hl (hm_ hx) X K.1 p).post (fun o h' z => mq_mm z)⟩
  unfold putQ
  repeat' split
  all_goals first | exact Or.inl rfl | exact Or.inr (by decide)
theorem j_pairs (hl : G.1.stackTraces = false) (hx : G.n0 ≤ x) (p : Int32) : JointT G x tk (es3 2 2 2) cs_Lw_pairs m_Gr_pairs m_Mo_pairs [.int p] := by
  intro h S ⟨la, C⟩ K hN O
  refine ⟨_, ((S.A, S.T, S.ln, S.im, S.pa, S.r, S.b, S.n, S.fl) : Ab), ?_, ⟨K.1, K.2.1, K.2.2⟩, (c_pairs hl hx C K.1 p).post (fun o h' z => cq_cc z), fun h1 X O1 Lg => (p_pairs hl (hm_ hx) X K.1 p).post (fun o h' z => mq_mm z)⟩
  unfold prsQ
  repeat' split
  all_goals first | exact Or.inl rfl | exact Or.inr (by decide)
theorem j_held (hl : G.1.stackTraces = false) (hx : G.n0 ≤ x) : JointT G x tk (es3 0 0 0) cs_Lw_held m_Gr_held m_Mo_held [] := by
  intro h S ⟨la, C⟩ K hN O
  refine ⟨_, ((S.A, S.T, S.ln, S.im, S.pa, S.r, S.b, 0, S.fl) : Ab), ?_, ⟨K.1, K.2.1, K.2.2⟩, (c_held hl hx C K.1 ).post (fun o h' z => cq_cc z), fun h1 X O1 Lg => (p_held hl (hm_ hx) X K.1 ).post (fun o h' z => mq_mm z)⟩
  unfold heldQ
  repeat' split
  all_goals first | exact Or.inl rfl | exact Or.inr (by decide)
theorem j_likely (hl : G.1.stackTraces = false) (hx : G.n0 ≤ x) : JointT G x tk (es3 0 0 0) cs_Lw_likely m_Gr_likely m_Mo_likely [] := by
  intro h S ⟨la, C⟩ K hN O
  refine ⟨_, ((S.A, S.T, S.ln, S.im, S.pa, S.r, S.b, 0, S.fl) : Ab), ?_, ⟨K.1, K.2.1, K.2.2⟩, (c_likely hl hx C K.1 ).post (fun o h' z => cq_cc z), fun h1 X O1 Lg => (p_likely hl (hm_ hx) X K.1 ).post (fun o h' z => mq_mm z)⟩
  unfold likQ
  repeat' split
  all_goals first | exact Or.inl rfl | exact Or.inr (by decide)
theorem j_ask (hl : G.1.stackTraces = false) (hx : G.n0 ≤ x) : JointT G x tk (es3 0 0 0) cs_Lw_ask m_Gr_ask m_Mo_ask [] := by
  intro h S ⟨la, C⟩ K hN O
  refine ⟨_, ((S.A, S.T, S.ln, S.im, S.pa, S.r, S.b, 0, S.fl) : Ab), ?_, ⟨K.1, K.2.1, K.2.2⟩, (c_ask hl hx C K.1 ).post (fun o h' z => cq_cc z), fun h1 X O1 Lg => (p_ask hl (hm_ hx) X K.1 ).post (fun o h' z => mq_mm z)⟩
  unfold askQ
  repeat' split
  all_goals first | exact Or.inl rfl | exact Or.inr (by decide)
theorem j_strong (hl : G.1.stackTraces = false) (hx : G.n0 ≤ x) (l : Int32) : JointT G x tk (es3 0 0 0) cs_Lw_strong m_Gr_strong m_Mo_strong [.int l] := by
  intro h S ⟨la, C⟩ K hN O
  refine ⟨_, ((S.A, S.T, S.ln, S.im, S.pa, S.r, S.b, 0, S.fl) : Ab), ?_, ⟨K.1, K.2.1, K.2.2⟩, (c_strong hl hx C l).post (fun o h' z => cq_cc z), fun h1 X O1 Lg => (p_strong hl (hm_ hx) X l).post (fun o h' z => mq_mm z)⟩
  unfold stgQ
  repeat' split
  all_goals first | exact Or.inl rfl | exact Or.inr (by decide)
theorem j_test (hl : G.1.stackTraces = false) (hx : G.n0 ≤ x) : JointT G x tk (es3 0 0 0) cs_Lw_test m_Gr_test m_Mo_test [] := by
  intro h S ⟨la, C⟩ K hN O
  refine ⟨_, ((S.A, S.T, S.ln, S.im, S.pa, S.r, S.b, 0, S.fl) : Ab), ?_, ⟨K.1, K.2.1, K.2.2⟩, (c_test hl hx C ).post (fun o h' z => cq_cc z), fun h1 X O1 Lg => (p_test hl (hm_ hx) X ).post (fun o h' z => mq_mm z)⟩
  unfold tstQ
  repeat' split
  all_goals first | exact Or.inl rfl | exact Or.inr (by decide)
theorem j_fingers (hl : G.1.stackTraces = false) (hx : G.n0 ≤ x) (k : Int32) : JointB G x tk (es3 0 0 0) cs_Lw_fingers m_Gr_fingers m_Mo_fingers [.int k] := by
  intro h S ⟨la, C⟩ K hN O
  refine ⟨_, ((S.A, S.T, S.ln, S.im, S.pa, S.r, S.b, 0, S.fl) : Ab), ?_, ?_, ⟨K.1, K.2.1, K.2.2⟩, (c_fingers hl hx C k).post (fun o h' z => cq_cc z), fun h1 X O1 Lg => (p_fingers hl (hm_ hx) X k).post (fun o h' z => mq_mm z)⟩
  · unfold fngQ
    repeat' split
    all_goals first | exact Or.inl rfl | exact Or.inr (by decide)
  · unfold fngQ
    repeat' split
    all_goals first | exact Or.inl rfl | exact Or.inr rfl
theorem j_opens (hl : G.1.stackTraces = false) (hx : G.n0 ≤ x) (k : Int32) : JointT G x tk (es3 0 0 0) cs_Lw_opens m_Gr_opens m_Mo_opens [.int k] := by
  intro h S ⟨la, C⟩ K hN O
  refine ⟨_, ((S.A, S.T, S.ln, S.im, S.pa, S.r, S.b, 0, S.fl) : Ab), ?_, ⟨K.1, K.2.1, K.2.2⟩, (c_opens hl hx C k).post (fun o h' z => cq_cc z), fun h1 X O1 Lg => (p_opens hl (hm_ hx) X k).post (fun o h' z => mq_mm z)⟩
  unfold opnQ
  repeat' split
  all_goals first | exact Or.inl rfl | exact Or.inr (by decide)
theorem j_round (hl : G.1.stackTraces = false) (hx : G.n0 ≤ x) : JointP G x tk m_Gr_round m_Mo_round [] true := by
  intro h S ⟨la, C⟩ K hN O
  exact ⟨_, S, ⟨_, rfl⟩, K, (c_round hl ⟨C.S.kd, C.S.1.2.2.2.2.2.2.1⟩ C.V K.1).post (fun o h' z => ev_cp ⟨la, C⟩ z), fun h1 X O1 Lg => (p_round hl (hm_ hx) X.W K.1).post (fun o h' z => mm_mp (mn_mm X z))⟩
theorem j_escheat (hl : G.1.stackTraces = false) (hx : G.n0 ≤ x) : JointP G x tk m_Gr_escheat m_Mo_escheat [] true := by
  intro h S ⟨la, C⟩ K hN O
  exact ⟨_, S, ⟨_, rfl⟩, K, (c_escheat hl ⟨C.S.kd, C.S.1.2.2.2.2.2.2.1⟩ C.V K.1).post (fun o h' z => ev_cp ⟨la, C⟩ z), fun h1 X O1 Lg => (p_escheat hl (hm_ hx) X.W K.1).post (fun o h' z => mm_mp (mn_mm X z))⟩
theorem j_watch (hl : G.1.stackTraces = false) (hx : G.n0 ≤ x) : JointP G x tk m_Gr_watch m_Mo_watch [] true := by
  intro h S ⟨la, C⟩ K hN O
  exact ⟨_, S, ⟨_, rfl⟩, K, (c_watch hl ⟨C.S.kd, C.S.1.2.2.2.2.2.2.1⟩ C.V K.1).post (fun o h' z => ev_cp ⟨la, C⟩ z), fun h1 X O1 Lg => (o_watch hl (hm_ hx) X.W K.1).post (fun o h' z => mm_mp (mn_mm X z))⟩
theorem j_living (hl : G.1.stackTraces = false) (hx : G.n0 ≤ x) : JointP G x tk m_Gr_living m_Mo_living [] true := by
  intro h S ⟨la, C⟩ K hN O
  exact ⟨_, S, ⟨_, rfl⟩, K, (c_living hl ⟨C.S.kd, C.S.1.2.2.2.2.2.2.1⟩ C.V).post (fun o h' z => ev_cp ⟨la, C⟩ z), fun h1 X O1 Lg => (p_living hl (hm_ hx) X.W K.1).post (fun o h' z => mm_mp (mn_mm X z))⟩
theorem j_idle (hl : G.1.stackTraces = false) (hx : G.n0 ≤ x) : JointP G x tk m_Gr_idle m_Mo_idle [] true := by
  intro h S ⟨la, C⟩ K hN O
  exact ⟨_, S, ⟨_, rfl⟩, K, (c_idle hl ⟨C.S.kd, C.S.1.2.2.2.2.2.2.1⟩ C.V K.1).post (fun o h' z => ev_cp ⟨la, C⟩ z), fun h1 X O1 Lg => (p_idle hl (hm_ hx) X.W K.1).post (fun o h' z => mm_mp (mn_mm X z))⟩
theorem j_crown (hl : G.1.stackTraces = false) (hx : G.n0 ≤ x) : JointP G x tk m_Gr_crown m_Mo_crown [] true := by
  intro h S ⟨la, C⟩ K hN O
  exact ⟨_, S, ⟨_, rfl⟩, K, (c_crown hl ⟨C.S.kd, C.S.1.2.2.2.2.2.2.1⟩ C.V K.1).post (fun o h' z => ev_cp ⟨la, C⟩ z), fun h1 X O1 Lg => (p_crown hl (hm_ hx) X.W K.1).post (fun o h' z => mm_mp (mn_mm X z))⟩
theorem j_wealth (hl : G.1.stackTraces = false) (hx : G.n0 ≤ x) : JointP G x tk m_Gr_wealth m_Mo_wealth [] true := by
  intro h S ⟨la, C⟩ K hN O
  exact ⟨_, S, ⟨_, rfl⟩, K, (c_wealth hl ⟨C.S.kd, C.S.1.2.2.2.2.2.2.1⟩ C.V K.1).post (fun o h' z => ev_cp ⟨la, C⟩ z), fun h1 X O1 Lg => (p_wealth hl (hm_ hx) X.W K.1).post (fun o h' z => mm_mp (mn_mm X z))⟩
theorem j_twins (hl : G.1.stackTraces = false) (hx : G.n0 ≤ x) : JointP G x tk m_Gr_twins m_Mo_twins [] true := by
  intro h S ⟨la, C⟩ K hN O
  exact ⟨_, S, ⟨_, rfl⟩, K, (c_twins hl ⟨C.S.kd, C.S.1.2.2.2.2.2.2.1⟩ C.V K.1).post (fun o h' z => ev_cp ⟨la, C⟩ z), fun h1 X O1 Lg => (p_twins hl (hm_ hx) X.W K.1).post (fun o h' z => mm_mp (mn_mm X z))⟩
theorem j_fault (hl : G.1.stackTraces = false) (hx : G.n0 ≤ x) : JointP G x tk m_Gr_fault m_Mo_fault [] true := by
  intro h S ⟨la, C⟩ K hN O
  exact ⟨_, S, ⟨_, rfl⟩, K, (c_fault hl C).post (fun o h' z => ev_cp ⟨la, C⟩ z), fun h1 X O1 Lg => (p_fault hl (hm_ hx) X).post (fun o h' z => mm_mp (mq_mm z))⟩
theorem j_count (hl : G.1.stackTraces = false) (hx : G.n0 ≤ x) (w : Int32) : JointP G x tk m_Gr_count m_Mo_count [.int w] true := by
  intro h S ⟨la, C⟩ K hN O
  exact ⟨_, S, ⟨_, rfl⟩, K, (c_count hl C.1 K.1 w).post (fun o h' z => ev_cp ⟨la, C⟩ z), fun h1 X O1 Lg => (p_count hl (hm_ hx) X.1 K.1 w).post (fun o h' z => mm_mp (ma_mm X z))⟩
theorem j_end (hl : G.1.stackTraces = false) (hx : G.n0 ≤ x) (k : Int32) : JointP G x tk m_Gr_end m_Mo_end [.int k] true := by
  intro h S ⟨la, C⟩ K hN O
  exact ⟨_, ((S.A, S.T, S.ln, S.im, S.pa, S.r, S.b, if cutF S.n k = 0 then S.n else k.toNatClampNeg, S.fl) : Ab), ⟨_, rfl⟩, ⟨K.1, K.2.1, K.2.2⟩, (c_end hl hx C k).post (fun o h' z => ⟨z.1, z.2.2.gw, la, z.2.1⟩), fun h1 X O1 Lg => (p_end hl (hm_ hx) X k).post (fun o h' z => mm_mp (mq_mm z))⟩
theorem j_feed (hl : G.1.stackTraces = false) (hx : G.n0 ≤ x) (w1 w2 w3 w4 w5 : Int32) : JointP G x tk m_Gr_feed m_Mo_feed [.int w1, .int w2, .int w3, .int w4, .int w5] true := by
  intro h S ⟨la, C⟩ K hN O
  by_cases hn : S.n + 20 ≤ 400
  · exact ⟨_, ((S.A, S.T, S.ln, S.im, S.pa, S.r, bFeed S.b S.n w1 w2 w3 w4 w5, S.n + 20, S.fl) : Ab), ⟨_, rfl⟩, ⟨K.1, K.2.1, K.2.2⟩, (c_feed1 hl hx C hn w1 w2 w3 w4 w5).post (fun o h' z => ⟨z.1, z.2.2.gw, la, z.2.1⟩), fun h1 X O1 Lg => (p_feed1 hl (hm_ hx) X hn w1 w2 w3 w4 w5).post (fun o h' z => ⟨z.1, z.2.2.2, z.2.2.1⟩)⟩
  · exact ⟨_, S, ⟨_, rfl⟩, K, (c_feed0 hl C hn w1 w2 w3 w4 w5).post (fun o h' z => ev_cp ⟨la, C⟩ z), fun h1 X O1 Lg => (p_feed0 hl (hm_ hx) X hn w1 w2 w3 w4 w5).post (fun o h' z => mm_mp (mq_mm z))⟩
theorem j_seed (hl : G.1.stackTraces = false) (hx : G.n0 ≤ x) (n : Int32) : JointP G x tk m_Gr_seed m_Mo_seed [.int n] true := by
  intro h S ⟨la, C⟩ K hN O
  exact ⟨_, ((up S.A 0 5 n, S.T, S.ln, S.im, S.pa, S.r, S.b, S.n, S.fl) : Ab), ⟨_, rfl⟩, ⟨K.1.up0 (by omega) n, K.2.1, K.2.2⟩, (c_seed hl hx C.1 n).post (fun o h' z => ⟨z.1, (aX_Z z.2.2).gw, la, C.act z.2.1 z.2.2⟩), fun h1 X O1 Lg => (p_seed hl (hm_ hx) X.1 n).post (fun o h' z => ⟨z.1, mA_Z z.2.2, MT.act X z.2.1 z.2.2⟩)⟩
theorem j_image (hl : G.1.stackTraces = false) (hx : G.n0 ≤ x) : JointP G x tk m_Gr_image m_Mo_image [] false := by
  intro h S ⟨la, C⟩ K hN O
  exact ⟨_, ((S.A, S.T, S.ln, some (S.A, S.T, S.ln), S.pa, S.r, S.b, S.n, S.fl) : Ab), rfl, ⟨K.1, K.2.1, fun q hq => by cases hq; exact K.1⟩, (c_image hl hx C.1).post (fun o h' z => ⟨z.1, (aX_Z z.2.2).gw, la, C.act z.2.1 z.2.2⟩), fun h1 X O1 Lg => (p_image hl (hm_ hx) X.1).post (fun o h' z => ⟨z.1, mA_Z z.2.2, MT.act X z.2.1 z.2.2⟩)⟩
theorem j_undo (hl : G.1.stackTraces = false) (hx : G.n0 ≤ x) : JointP G x tk m_Gr_undo m_Mo_undo [] true := by
  intro h S ⟨la, C⟩ K hN O
  obtain ⟨A, T, ln, im, pa, r, b, n, fl⟩ := S
  cases r with
  | zero => exact ⟨_, ((A, T, ln, im, pa, 0, b, n, fl) : Ab), ⟨_, rfl⟩, K, (c_undo0 hl C.1).post (fun o h' z => ev_cp ⟨la, C⟩ z), fun h1 X O1 Lg => (p_undo0 hl (hm_ hx) X.1).post (fun o h' z => ⟨z.1, mA_Z z.2.2, MT.act X z.2.1 z.2.2⟩)⟩
  | succ r => exact ⟨_, ((pa 0, T, ln, im, fun i => pa (i + 1), r, b, n, fl) : Ab), ⟨_, rfl⟩, ⟨K.2.1 0 (Nat.succ_pos r), fun i hi => K.2.1 (i + 1) (Nat.succ_lt_succ hi), K.2.2⟩, (c_undo1 hl hx C.1).post (fun o h' z => ⟨z.1, (aX_Z z.2.2).gw, la, C.act z.2.1 z.2.2⟩), fun h1 X O1 Lg => (p_undo1 hl (hm_ hx) X.1).post (fun o h' z => ⟨z.1, mA_Z z.2.2, MT.act X z.2.1 z.2.2⟩)⟩
theorem j_back (hl : G.1.stackTraces = false) (hx : G.n0 ≤ x) : JointP G x tk m_Gr_back m_Mo_back [] true := by
  intro h S ⟨la, C⟩ K hN O
  obtain ⟨A, T, ln, im, pa, r, b, n, fl⟩ := S
  cases im with
  | none => exact ⟨_, ((A, T, ln, none, pa, r, b, n, fl) : Ab), ⟨_, rfl⟩, K, (c_back0 hl C.1).post (fun o h' z => ev_cp ⟨la, C⟩ z), fun h1 X O1 Lg => (p_back0 hl (hm_ hx) X.1).post (fun o h' z => ⟨z.1, mA_Z z.2.2, MT.act X z.2.1 z.2.2⟩)⟩
  | some B => exact ⟨_, ((B.1, B.2.1, B.2.2, some B, pa, 0, b, n, fl) : Ab), ⟨_, rfl⟩, ⟨K.2.2 B rfl, fun i hi => absurd hi (Nat.not_lt_zero i), K.2.2⟩, (c_back1 hl hx C.1 pa).post (fun o h' z => ⟨z.1, (aX_Z z.2.2).gw, by obtain ⟨li, z3⟩ := z.2.1; exact ⟨li, CT.actL C z3 z.2.2⟩⟩), fun h1 X O1 Lg => (p_back1 hl (hm_ hx) X.1 pa).post (fun o h' z => ⟨z.1, mA_Z z.2.2, MT.actL X z.2.1 z.2.2⟩)⟩
theorem j_valley (hl : G.1.stackTraces = false) (hx : G.n0 ≤ x) : JointT G x tk (es3 0 3 3) cs_Lw_valley m_Gr_valley m_Mo_valley [] := by
  intro h S ⟨la, C⟩ K hN O
  have kq : Kc cs_Lw_valley (es3 0 3 3) (valQ S.A S.b S.n) := by
    unfold valQ
    repeat' split
    all_goals first | exact Or.inl rfl | exact Or.inr (by decide)
  have C1 := c_valley hl hx O C K.1
  have M1 := fun h1 (X : MS G h1 (x + 192) S) (O1 : Old G h1 tk) (Lg : LitG G h1) => p_valley hl (hm_ hx) O1 Lg X K.1
  unfold cVal at C1
  unfold mVal at M1
  cases e : valS S.A S.b S.n with
  | none =>
    rw [e] at C1
    simp only [e] at M1
    exact ⟨_, ((S.A, S.T, S.ln, S.im, S.pa, S.r, S.b, 0, vR (valV S.A S.b S.n)) : Ab), kq, ⟨K.1, K.2.1, K.2.2⟩, C1.post (fun o h' z => ⟨z.1.2, z.1.1.gw, la, z.2⟩), fun h1 X O1 Lg => (M1 h1 X O1 Lg).post (fun o h' z => z)⟩
  | some A' =>
    rw [e] at C1
    simp only [e] at M1
    exact ⟨_, ((A', S.T, S.ln, S.im, S.pa, 0, S.b, 0, vR (valV S.A S.b S.n)) : Ab), kq, ⟨valS_wf K.1 e, fun i hi => absurd hi (Nat.not_lt_zero i), K.2.2⟩, C1.post (fun o h' z => ⟨z.1.2, z.1.1.gw, la, z.2⟩), fun h1 X O1 Lg => (M1 h1 X O1 Lg).post (fun o h' z => z)⟩
theorem j_law (hl : G.1.stackTraces = false) (hx : G.n0 ≤ x) : JointT G x tk (es3 0 0 0) cs_Lw_law m_Gr_law m_Mo_law [] := by
  intro h S ⟨la, C⟩ K hN O
  have kq : Kc cs_Lw_law (es3 0 0 0) (lawQ S.b S.n) := by
    unfold lawQ
    repeat' split
    all_goals first | exact Or.inl rfl | exact Or.inr (by decide)
  have es0 : ∀ k, es3 0 0 0 k = excs 0 := fun k => by unfold es3; rw [ite_self, ite_self]
  have C1 := c_law hl hx hN O C
  have M1 := fun h1 (X : MS G h1 (x + 192) S) (O1 : Old G h1 tk) (Lg : LitG G h1) => p_law hl (hm_ hx) O1 Lg X
  unfold cLaw at C1
  unfold mLaw at M1
  cases e : (lawL S.b S.n).2 with
  | none =>
    rw [e] at C1
    simp only [e] at M1
    exact ⟨_, ((S.A, S.T, S.ln, S.im, S.pa, S.r, S.b, 0, lR (lawL S.b S.n)) : Ab), kq, ⟨K.1, K.2.1, K.2.2⟩, C1.post (fun o h' z => ⟨by rw [es0]; exact z.1, z.2.1, la, z.2.2⟩), fun h1 X O1 Lg => (M1 h1 X O1 Lg).post (fun o h' z => z)⟩
  | some D =>
    rw [e] at C1
    simp only [e] at M1
    exact ⟨_, ((S.A, lawT D, nI D.length, S.im, S.pa, 0, S.b, 0, lR (lawL S.b S.n)) : Ab), kq, ⟨K.1, fun i hi => absurd hi (Nat.not_lt_zero i), K.2.2⟩, C1.post (fun o h' z => ⟨by rw [es0]; exact z.1, z.2.1, z.2.2⟩), fun h1 X O1 Lg => (M1 h1 X O1 Lg).post (fun o h' z => z)⟩
end JNS
