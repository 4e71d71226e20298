/-! ===== acts of the class, the second half ===== -/
theorem b01_in (b : Int32) : b01 b = 0 ∨ b01 b = 1 := by
  unfold b01; split
  · exact Or.inl rfl
  · exact Or.inr rfl
theorem up_self {A : Vs} {k j : Nat} : up A k j (A k j) = A := by
  funext k' j'
  unfold up
  split
  · rename_i z; rw [z.1, z.2]
  · rfl
theorem flag_add {A A' : Vs} {f : Nat} (hp : nP A' = nP A + 1) (e : ∀ i, i < nP A → A' f i = A f i) : flagF A' f = if A' f (nP A) = 1 then flagF A f ||| sh1 (nP A) else flagF A f := by
  have el : lp (fun p b => if A' f p = 1 then b ||| sh1 p else b) (nP A) 0 = lp (fun p b => if A f p = 1 then b ||| sh1 p else b) (nP A) 0 := lp_congr (fun t ht b => by rw [e t ht]) 0
  unfold flagF
  rw [hp]
  show (if A' f (nP A) = 1 then lp (fun p b => if A' f p = 1 then b ||| sh1 p else b) (nP A) 0 ||| sh1 (nP A) else lp (fun p b => if A' f p = 1 then b ||| sh1 p else b) (nP A) 0) = _
  rw [el]
theorem nP_add {A : Vs} (B : Bd A) {a g o w : Int32} : nP (addP A a g o w) = nP A + 1 := by
  unfold nP addP
  rw [up_same, B.1, nI_1, nI_clamp (by have := B.2.1; omega), nI_clamp (by have := B.2.1; omega)]
theorem addP_lo {A : Vs} {a g o w : Int32} {k j : Nat} (h : ¬ (k = 0 ∧ j = 0)) (h2 : j ≠ nP A ∨ k = 0 ∨ 6 ≤ k) : addP A a g o w k j = A k j := by
  unfold addP
  rw [up_ne (by omega), up_ne (by omega), up_ne (by omega), up_ne (by omega), up_ne (by omega), up_ne (by omega)]
section ACT2
variable {G : Gx} {h h' : Hp} {x v la : Nat} {A A' : Vs} {T : Tt} {ln : Int32} {im : Option Sv} {pa : Nat → Vs} {r : Nat} {es : Int32 → String}
theorem VlyAt.flag4 (V : VlyAt h v A la) (k : Nat) (w : Int32) : VlyAt (hset h v 4 (.int (flagF (up A 4 k w) 4))) v (up A 4 k w) la := by
  refine V.heads rfl (fun a j hn => hs_ne (by omega)) ?_ hs_eq ?_ (fun k' j' h0 h4 h5 => up_ne (by omega))
  · rw [hs_ne (by omega), up_ne (by omega)]; exact V.f0.2
  · rw [hs_ne (by omega), flagF_other (by omega) (by omega)]; exact V.f5.2
theorem flag_same {k : Nat} {w : Int32} (W : Wf A) (hk : k < nP A) (hw : w = 0 ∨ w = 1) : flagF (up A 4 k w) 4 = flagF A 4 ↔ A 4 k = w := by
  have h7 := W.1.2.1
  constructor
  · intro e
    have hP : nP (up A 4 k w) = nP A := nP_up (by omega)
    have b1 := flagF_bt (A := up A 4 k w) (f := 4) (i := k) (by omega) (by omega)
    have b2 := flagF_bt (A := A) (f := 4) (i := k) (by omega) (by omega)
    rw [e, b2, up_same, hP] at b1
    have q : (A 4 k = 1 ↔ w = 1) := by
      have := decide_eq_decide.mp b1
      exact ⟨fun z => (this.mp ⟨hk, z⟩).2, fun z => (this.mpr ⟨hk, z⟩).2⟩
    rcases (W.2.2.1 k hk).1 with z | z <;> rcases hw with y | y
    · rw [z, y]
    · rw [z, y] at q; exact absurd (q.mpr rfl) (by decide)
    · rw [z, y] at q; exact absurd (q.mp rfl) (by decide)
    · rw [z, y]
  · intro e; rw [← e, up_self]
theorem c_tie (hl : G.1.stackTraces = false) (hx : G.n0 ≤ x) (C : CVl G h x la A T ln im pa r) (W : Wf A) (p b : Int32) : EvM G m_Gr_tie [.ref x, .int p, .int b] h (CA G h x la A T ln im pa r (es3 2 2 2) (aTie A p b)) := by
  unfold aTie
  rcases person_cases W.1 p with e | ⟨e, k, hk, rfl⟩
  · rw [if_pos e]
    exact en_Gr_tie h _ x _ _ (e_Gr_tie_0 hl h _ x _ _ ⟨C.S.kd, _, c_needPerson0 hl C.S.r5 C.V e, by decide, fun o h1 z => Or.inr (CA_th C z (by decide) rfl)⟩)
  · have k7 := W.1.P7 hk
    rw [if_neg (by rw [e]; decide), nI_clamp (by omega)]
    refine en_Gr_tie h _ x _ _ (e_Gr_tie_0 hl h _ x _ _ ⟨C.S.kd, _, c_needPerson1 hl C.S.r5 C.V e, by decide, fun o h1 z => Or.inl ⟨z.1, ?_⟩⟩)
    rw [z.2]
    refine ⟨C.S.kd, _, c_remember hl hx C, fun o2 h2 y => Or.inl ?_⟩
    obtain ⟨y1, C2, F2⟩ := y
    have V3 := C2.V.flag4 k (b01 b)
    have F3 : Fs (inV (x + 27)) h2 (hset h2 (x + 27) 4 (.int (flagF (up A 4 k (b01 b)) 4))) := Fs.rf.set ⟨by omega, by omega⟩
    have C3 := C2.now V3 F3
    have fin : ∀ cs ss, Ev G m_Gr_tie 43 [.ref x, un, un, .int (flagF A 4)] [] (hset h2 (x + 27) 4 (.int (flagF (up A 4 k (b01 b)) 4))) cs ss (CA G h x la A T ln im pa r (es3 2 2 2) (yes_ (if A 4 k = b01 b then 0 else 1) (up A 4 k (b01 b)))) := by
      intro cs ss
      refine e_Gr_tie_43 hl _ _ x _ cs ss ⟨_, C3.S.r5, _, C3.V.f4, fun q => ?_, fun q => ?_⟩
      · rw [if_pos ((flag_same W hk (b01_in b)).mp q)]; exact CA_ok C3 (F2.tr (aX_now F3))
      · rw [if_neg (fun z => q ((flag_same W hk (b01_in b)).mpr z))]; exact CA_ok C3 (F2.tr (aX_now F3))
    refine ⟨y1, _, C2.S.r5, _, C2.V.f4, _, C2.S.r5, fun c => ⟨⟨by omega, C2.V.kd⟩, ?_⟩, fun c => ⟨⟨by omega, C2.V.kd⟩, ?_⟩⟩
    · have e0 : b01 b = 0 := by unfold b01; rw [if_pos c]
      rw [e0, flagF_up0 W.1 (by omega) hk] at fin
      rw [e0]
      exact fin _ _
    · have e0 : b01 b = 1 := by unfold b01; rw [if_neg c]
      rw [e0, flagF_up1 W.1 (by omega) hk] at fin
      rw [e0]
      exact fin _ _
theorem c_heir (hl : G.1.stackTraces = false) (hx : G.n0 ≤ x) (C : CVl G h x la A T ln im pa r) (W : Wf A) (p q : Int32) : EvM G m_Gr_heir [.ref x, .int p, .int q] h (CA G h x la A T ln im pa r (es3 2 0 0) (aHeir A p q)) := by
  unfold aHeir
  rcases person_cases W.1 p with e | ⟨e, k, hk, rfl⟩
  · rw [if_pos e]
    exact en_Gr_heir h _ x _ _ (e_Gr_heir_0 hl h _ x _ _ ⟨C.S.kd, _, c_needPerson0 hl C.S.r5 C.V e, by decide, fun o h1 z => Or.inr (CA_th C z (by decide) rfl)⟩)
  · have k7 := W.1.P7 hk
    rw [if_neg (by rw [e]; decide)]
    refine en_Gr_heir h _ x _ _ (e_Gr_heir_0 hl h _ x _ _ ⟨C.S.kd, _, c_needPerson1 hl C.S.r5 C.V e, by decide, fun o h1 z => Or.inl ⟨z.1, ?_⟩⟩)
    rw [z.2]
    have go : ∀ (h2 : Hp), CVl G h2 x la A T ln im (pcons A pa) (min (r + 1) 12) → Fs (aX x) h h2 → ∃ y10, fR h2 10 x 5 y10 ∧ ∃ y11, fR h2 8 y10 3 y11 ∧ ∃ x12, aI h2 101 y11 (nI k) x12 ∧ ∃ y13, fR h2 10 x 5 y13 ∧ ∃ y14, fR h2 8 y13 3 y14 ∧ aW G h2 101 y14 (nI k) ∧ ∀ cs ss, Ev G m_Gr_heir 52 [un, un, un, .int x12] [] (hset h2 y14 (Int32.toNatClampNeg (nI k)) (.int q)) cs ss (CA G h x la A T ln im pa r (es3 2 0 0) (yes_ (A 3 (nI k).toNatClampNeg) (up A 3 (nI k).toNatClampNeg q))) := by
      intro h2 C2 F2
      refine ⟨_, C2.S.r5, _, C2.V.r3, _, C2.V.a3 k7, _, C2.S.r5, _, C2.V.r3, C2.V.w3 (by omega) k7, fun cs ss => ?_⟩
      rw [nI_clamp (by omega)]
      have V3 := C2.V.set (k := 3) (j := k) (Or.inr (Or.inl ⟨by decide, by decide, k7⟩)) (by omega) q
      have F3 : Fs (inV (x + 27)) h2 (hset h2 (x + 27 + 3) k (.int q)) := Fs.rf.set ⟨by omega, by omega⟩
      exact e_Gr_heir_52 hl _ _ _ cs ss (CA_ok (C2.now V3 F3) (F2.tr (aX_now F3)))
    refine ⟨fun c => ⟨fun d => ⟨_, c_needNumber0 hl, by decide, fun o h1 z => Or.inr ?_⟩, fun d => ⟨_, c_needNumber1 hl, by decide, fun o h1 z => Or.inl ⟨z.1, ?_⟩⟩⟩, fun c => ?_⟩
    · rw [if_neg (fun q => q.1 c), if_pos d]; exact CA_th C z (by decide) rfl
    · rw [z.2, if_neg (fun q => q.1 c), if_neg d]
      refine ⟨C.S.kd, _, c_remember hl hx C, fun o2 h2 y => Or.inl ?_⟩
      obtain ⟨y1, C2, F2⟩ := y
      obtain ⟨g1, g2, g3, g4, g5, g6, g7, g8, g9, g10, g11, g12⟩ := go h2 C2 F2
      exact ⟨y1, g1, g2, g3, g4, g5, g6, g7, g8, g9, g10, g11, g12 _ _⟩
    · rcases person_cases W.1 q with e2 | ⟨e2, -⟩
      · rw [if_pos ⟨c, e2⟩]
        exact ⟨C.S.kd, _, c_needPerson0 hl C.S.r5 C.V e2, by decide, fun o h1 z => Or.inr (CA_th C z (by decide) rfl)⟩
      · rw [if_neg (fun y => by rw [e2] at y; exact absurd y.2 (by decide))]
        refine ⟨C.S.kd, _, c_needPerson1 hl C.S.r5 C.V e2, by decide, fun o h1 z => Or.inl ⟨z.1, ?_⟩⟩
        rw [z.2]
        refine ⟨fun d => ⟨_, c_needNumber0 hl, by decide, fun o h1 z => Or.inr ?_⟩, fun d => ⟨_, c_needNumber1 hl, by decide, fun o h1 z => Or.inl ⟨z.1, ?_⟩⟩⟩
        · rw [if_pos d]; exact CA_th C z (by decide) rfl
        · rw [z.2, if_neg d]
          refine ⟨C.S.kd, _, c_remember hl hx C, fun o2 h2 y => Or.inl ?_⟩
          obtain ⟨y1, C2, F2⟩ := y
          obtain ⟨g1, g2, g3, g4, g5, g6, g7, g8, g9, g10, g11, g12⟩ := go h2 C2 F2
          exact ⟨y1, g1, g2, g3, g4, g5, g6, g7, g8, g9, g10, g11, g12 _ _⟩
theorem c_give (hl : G.1.stackTraces = false) (hx : G.n0 ≤ x) (C : CVl G h x la A T ln im pa r) (W : Wf A) (t p : Int32) : EvM G m_Gr_give [.ref x, .int t, .int p] h (CA G h x la A T ln im pa r (es3 2 1 1) (aGive A t p)) := by
  unfold aGive
  rcases thing_cases W.1 t with e | ⟨e, k, hk, rfl⟩
  · rw [if_pos e]
    exact en_Gr_give h _ x _ _ (e_Gr_give_0 hl h _ x _ _ ⟨C.S.kd, _, c_needThing0 hl C.S.r5 C.V e, by decide, fun o h1 z => Or.inr (CA_th C z (by decide) rfl)⟩)
  · have k10 := W.1.T10 hk
    rw [if_neg (by rw [e]; decide), nI_clamp (show k < 2 ^ 31 by omega)]
    refine en_Gr_give h _ x _ _ (e_Gr_give_0 hl h _ x _ _ ⟨C.S.kd, _, c_needThing1 hl C.S.r5 C.V e, by decide, fun o h1 z => Or.inl ⟨z.1, ?_⟩⟩)
    rw [z.2]
    rcases person_cases W.1 p with e2 | ⟨e2, j, hj, rfl⟩
    · rw [if_pos e2]
      exact ⟨C.S.kd, _, c_needPerson0 hl C.S.r5 C.V e2, by decide, fun o h1 z => Or.inr (CA_th C z (by decide) rfl)⟩
    · have j7 := W.1.P7 hj
      rw [if_neg (by rw [e2]; decide), nI_clamp (show j < 2 ^ 31 by omega)]
      refine ⟨C.S.kd, _, c_needPerson1 hl C.S.r5 C.V e2, by decide, fun o h1 z => Or.inl ⟨z.1, ?_⟩⟩
      rw [z.2]
      refine ⟨_, C.S.r5, _, C.V.r9, _, C.V.a8 k10, _, C.S.r5, C.V.kd, _, v_free hl C.V k10, fun c => ⟨_, c_needState0 hl, by decide, fun o h1 z => Or.inr ?_⟩, fun c => ⟨_, C.S.r5, C.V.kd, _, v_living hl C.V W.1 hj, fun d => ⟨_, c_needState0 hl, by decide, fun o h1 z => Or.inr ?_⟩, fun d => ⟨fun f => ⟨_, c_needState0 hl, by decide, fun o h1 z => Or.inr ?_⟩, fun f => ⟨_, c_needState1 hl, by decide, fun o h1 z => Or.inl ⟨z.1, ?_⟩⟩⟩⟩⟩
      · rw [if_neg (fun q => ite0 c q.1.1)]; exact CA_th C z (by decide) rfl
      · rw [if_neg (fun q => ite0 d q.1.2)]; exact CA_th C z (by decide) rfl
      · rw [if_neg (fun q => q.2 f)]; exact CA_th C z (by decide) rfl
      · rw [z.2, if_pos ⟨⟨ite1 c, ite1 d⟩, f⟩]
        refine ⟨C.S.kd, _, c_remember hl hx C, fun o2 h2 y => Or.inl ?_⟩
        obtain ⟨y1, C2, F2⟩ := y
        refine ⟨y1, _, C2.S.r5, _, C2.V.r9, C2.V.w8 (by omega) k10, ?_⟩
        rw [nI_clamp (show k < 2 ^ 31 by omega)]
        have V3 := C2.V.set (k := 8) (j := k) (Or.inr (Or.inr ⟨by decide, by decide, k10⟩)) (by omega) (nI j)
        have F3 : Fs (inV (x + 27)) h2 (hset h2 (x + 27 + 6) k (.int (nI j))) := Fs.rf.set ⟨by omega, by omega⟩
        exact e_Gr_give_69 hl _ _ _ _ _ (CA_ok (C2.now V3 F3) (F2.tr (aX_now F3)))
theorem v_handOver (hl : G.1.stackTraces = false) (hv : G.n0 ≤ v) (V : VlyAt h v A la) (B : Bd A) {t : Int32} (ht : t = -1 ∨ ∃ k, k < nT A ∧ t = nI k) (p : Int32) : EvM G m_Va_handOver [.ref v, .int t, .int p] h (vpost v la h (handA A t p)) := by
  unfold handA
  rcases ht with rfl | ⟨k, hk, rfl⟩
  · rw [if_pos rfl]
    exact en_Va_handOver h _ v _ _ (e_Va_handOver_0 hl h _ v _ _ ⟨V.kd, _, v_isThing hl V _, fun _ => ⟨rfl, V, Fs.rf⟩, fun q => absurd (by rw [if_pos (by decide)]) q⟩)
  · have k10 := B.T10 hk
    rw [if_neg (m1_ne (by omega)), nI_clamp (by omega)]
    refine en_Va_handOver h _ v _ _ (e_Va_handOver_0 hl h _ v _ _ ⟨V.kd, 1, by rw [← thing1 B hk]; exact v_isThing hl V _, fun q => absurd q (by decide), fun _ => ⟨V.kd, _, v_move hl hv V k10 1 p, fun o h1 z => Or.inl ?_⟩⟩)
    obtain ⟨z1, V1, F1⟩ := z
    refine ⟨z1, _, V1.r9, V1.w8 hv k10, ?_⟩
    rw [nI_clamp (by omega)]
    exact ⟨rfl, V1.set (k := 8) (j := k) (Or.inr (Or.inr ⟨by decide, by decide, k10⟩)) (by omega) p, F1.set ⟨Nat.le_add_right _ _, Nat.add_le_add_left (by decide) _⟩⟩
theorem hold_or (A : Vs) (p : Int32) : holdF A p = -1 ∨ ∃ k, k < nT A ∧ holdF A p = nI k := by
  rcases holdF_spec A p with ⟨q, -⟩ | ⟨u, hu, q, -, -⟩
  · exact Or.inl q
  · exact Or.inr ⟨u, hu, q⟩
theorem handA_Bd (B : Bd A) (t p : Int32) : Bd (handA A t p) ∧ nT (handA A t p) = nT A ∧ nP (handA A t p) = nP A := by
  unfold handA
  split
  · exact ⟨B, rfl, rfl⟩
  · refine ⟨Bd_up (Bd_up (Bd_up B (by omega)) (by omega)) (by omega), ?_, ?_⟩
    · rw [nT_up (by omega)]; exact Kp.mv.2
    · rw [nP_up (by omega)]; exact Kp.mv.1
theorem c_swap (hl : G.1.stackTraces = false) (hx : G.n0 ≤ x) (C : CVl G h x la A T ln im pa r) (W : Wf A) (p q : Int32) : EvM G m_Gr_swap [.ref x, .int p, .int q] h (CA G h x la A T ln im pa r (es3 2 0 1) (aSwap A p q)) := by
  unfold aSwap
  rcases person_cases W.1 p with e | ⟨e, k, hk, rfl⟩
  · rw [if_pos e]
    exact en_Gr_swap h _ x _ _ (e_Gr_swap_0 hl h _ x _ _ ⟨C.S.kd, _, c_needPerson0 hl C.S.r5 C.V e, by decide, fun o h1 z => Or.inr (CA_th C z (by decide) rfl)⟩)
  · have k7 := W.1.P7 hk
    rw [if_neg (by rw [e]; decide), nI_clamp (by omega)]
    refine en_Gr_swap h _ x _ _ (e_Gr_swap_0 hl h _ x _ _ ⟨C.S.kd, _, c_needPerson1 hl C.S.r5 C.V e, by decide, fun o h1 z => Or.inl ⟨z.1, ?_⟩⟩)
    rw [z.2]
    rcases person_cases W.1 q with e2 | ⟨e2, j, hj, rfl⟩
    · rw [if_pos e2]
      exact ⟨C.S.kd, _, c_needPerson0 hl C.S.r5 C.V e2, by decide, fun o h1 z => Or.inr (CA_th C z (by decide) rfl)⟩
    · have j7 := W.1.P7 hj
      rw [if_neg (by rw [e2]; decide), nI_clamp (by omega)]
      refine ⟨C.S.kd, _, c_needPerson1 hl C.S.r5 C.V e2, by decide, fun o h1 z => Or.inl ⟨z.1, ?_⟩⟩
      rw [z.2]
      refine ⟨fun c => ⟨_, c_needNumber0 hl, by decide, fun o h1 z => Or.inr ?_⟩, fun c => ⟨_, c_needNumber1 hl, by decide, fun o h1 z => Or.inl ⟨z.1, ?_⟩⟩⟩
      · rw [if_pos c]; exact CA_th C z (by decide) rfl
      · rw [z.2, if_neg c]
        refine ⟨_, C.S.r5, C.V.kd, _, v_living hl C.V W.1 hk, fun d => ⟨_, c_needState0 hl, by decide, fun o h1 z => Or.inr ?_⟩, fun d => ⟨_, C.S.r5, C.V.kd, _, v_living hl C.V W.1 hj, fun f => ⟨_, c_needState0 hl, by decide, fun o h1 z => Or.inr ?_⟩, fun f => ⟨_, c_needState1 hl, by decide, fun o h1 z => Or.inl ⟨z.1, ?_⟩⟩⟩⟩
        · rw [if_neg (fun q => ite0 d q.1)]; exact CA_th C z (by decide) rfl
        · rw [if_neg (fun q => ite0 f q.2)]; exact CA_th C z (by decide) rfl
        · rw [z.2, if_pos ⟨ite1 d, ite1 f⟩]
          refine ⟨C.S.kd, _, c_remember hl hx C, fun o2 h2 y => Or.inl ?_⟩
          obtain ⟨y1, C2, F2⟩ := y
          refine ⟨y1, _, C2.S.r5, C2.V.kd, _, v_holding hl C2.V W.1 _, _, C2.S.r5, C2.V.kd, _, v_holding hl C2.V W.1 _, _, C2.S.r5, C2.V.kd, _, v_handOver hl (by omega) C2.V W.1 (hold_or A _) _, fun o3 h3 w => Or.inl ?_⟩
          obtain ⟨w1, V3, F3⟩ := w
          have C3 := C2.now V3 F3
          obtain ⟨B3, T3, -⟩ := handA_Bd W.1 (holdF A (nI k)) (nI j)
          refine ⟨w1, _, C3.S.r5, V3.kd, _, v_handOver hl (by omega) V3 B3 (by rw [T3]; exact hold_or A _) _, fun o4 h4 w => Or.inl ?_⟩
          obtain ⟨w2, V4, F4⟩ := w
          exact ⟨w2, CA_ok (C3.now V4 F4) ((F2.tr (aX_now F3)).tr (aX_now F4))⟩
theorem v_addPerson (hl : G.1.stackTraces = false) (hv : G.n0 ≤ v) (V : VlyAt h v A la) (B : Bd A) (hp : nP A < 7) (a g o w : Int32) : EvM G m_Va_addPerson [.ref v, .int a, .int g, .int o, .int w] h (vpost v la h (addP A a g o (b01 w))) := by
  have hcl : (A 0 0).toNatClampNeg = nP A := rfl
  have V1 : VlyAt (hset h (v + 1) (nP A) (.int a)) v (up A 1 (nP A) a) la := V.set (k := 1) (j := nP A) (Or.inr (Or.inl ⟨by decide, by decide, hp⟩)) (by omega) a
  have V2 : VlyAt (hset (hset h (v + 1) (nP A) (.int a)) (v + 2) (nP A) (.int g)) v (up (up A 1 (nP A) a) 2 (nP A) g) la := V1.set (k := 2) (j := nP A) (Or.inr (Or.inl ⟨by decide, by decide, hp⟩)) (by omega) g
  have V3 : VlyAt (hset (hset (hset h (v + 1) (nP A) (.int a)) (v + 2) (nP A) (.int g)) (v + 3) (nP A) (.int o)) v (up (up (up A 1 (nP A) a) 2 (nP A) g) 3 (nP A) o) la := V2.set (k := 3) (j := nP A) (Or.inr (Or.inl ⟨by decide, by decide, hp⟩)) (by omega) o
  have F3 : Fs (inV v) h (hset (hset (hset h (v + 1) (nP A) (.int a)) (v + 2) (nP A) (.int g)) (v + 3) (nP A) (.int o)) := ((Fs.rf.set ⟨by omega, by omega⟩).set ⟨by omega, by omega⟩).set ⟨by omega, by omega⟩
  have u0 : ∀ {B' : Vs} {k : Nat} {y : Int32}, 1 ≤ k → up B' k (nP A) y 0 0 = B' 0 0 := fun hk => up_ne (by omega)
  have w1 : ∀ {h2 : Hp} {B' : Vs} {k : Nat}, VlyAt h2 v B' la → B' 0 0 = A 0 0 → fI h2 8 v 0 (A 0 0) := fun V e => by have := V.f0; rw [e] at this; exact this
  refine en_Va_addPerson h _ v _ _ _ _ (e_Va_addPerson_0 hl h _ v _ _ _ _ ⟨_, V.f0, fun _ => ⟨_, V.r1, _, V.f0, by rw [B.1]; exact V.w1 hv hp, ?_⟩, fun q => absurd (by rw [B.1]; exact nI_lt hp (by decide)) q⟩)
  rw [hcl]
  refine e_Va_addPerson_20 hl _ _ v _ _ _ ⟨_, V1.r2, A 0 0, by have := V1.f0; rw [u0 (by omega)] at this; exact this, by rw [B.1]; exact V1.w2 hv hp, ?_⟩
  rw [hcl]
  refine e_Va_addPerson_30 hl _ _ v _ _ ⟨_, V2.r3, A 0 0, by have := V2.f0; rw [u0 (by omega), u0 (by omega)] at this; exact this, by rw [B.1]; exact V2.w3 hv hp, ?_⟩
  rw [hcl]
  have f0 : ∀ (h4 : Hp), (∀ j, j ≠ 4 → j ≠ 5 → h4.2.1 v j = (hset (hset (hset h (v + 1) (nP A) (.int a)) (v + 2) (nP A) (.int g)) (v + 3) (nP A) (.int o)).2.1 v j) → h4.2.1 v 0 = .int (A 0 0) := fun h4 e => by
    rw [e 0 (by omega) (by omega), hset_ne (by omega), hset_ne (by omega), hset_ne (by omega)]; exact V.f0.2
  have k3 := V3.kd
  have e5 := V3.f5.2
  have e4 := V3.f4.2
  have r0 := f0 _ (fun _ _ _ => rfl)
  generalize hh : hset (hset (hset h (v + 1) (nP A) (.int a)) (v + 2) (nP A) (.int g)) (v + 3) (nP A) (.int o) = h3 at *
  generalize hA3 : up (up (up A 1 (nP A) a) 2 (nP A) g) 3 (nP A) o = A3 at *
  have hV3 : VlyAt h3 v A3 la := V3
  have p3 : nP A3 = nP A := by rw [← hA3, nP_up (by omega), nP_up (by omega), nP_up (by omega)]
  have eS : (1 : Int32) <<< (A 0 0 &&& 31) = sh1 (nP A) := by rw [B.1]; unfold sh1; rw [show nP A = (A 0 0).toNatClampNeg from rfl, B.1, nI_clamp (by omega)]
  have eA : addP A a g o (b01 w) = up (up (up A3 4 (nP A) (b01 w)) 5 (nP A) 1) 0 0 (A 0 0 + 1) := by unfold addP; rw [hA3]
  have pA : nP (addP A a g o (b01 w)) = nP A3 + 1 := by rw [nP_add B, p3]
  have fl : ∀ f, f = 4 ∨ f = 5 → flagF (addP A a g o (b01 w)) f = if addP A a g o (b01 w) f (nP A3) = 1 then flagF A3 f ||| sh1 (nP A3) else flagF A3 f := fun f hf => flag_add pA (fun i hi => by rw [eA, up_ne (by omega), up_ne (by omega), up_ne (by omega)])
  have g5 : flagF (addP A a g o (b01 w)) 5 = flagF A3 5 ||| sh1 (nP A) := by
    rw [fl 5 (Or.inr rfl), p3, if_pos (by rw [eA, up_ne (by omega), up_same])]
  have g4 : flagF (addP A a g o (b01 w)) 4 = if b01 w = 1 then flagF A3 4 ||| sh1 (nP A) else flagF A3 4 := by
    rw [fl 4 (Or.inl rfl), p3, show addP A a g o (b01 w) 4 (nP A) = b01 w by rw [eA, up_ne (by omega), up_ne (by omega), up_same]]
  refine e_Va_addPerson_40 hl _ _ v _ ⟨_, ⟨k3, e5⟩, A 0 0, ⟨k3, r0⟩, ⟨hv, k3⟩, ?_⟩
  have fin : ∀ h5 : Hp, h5.1 = h3.1 → h3.2.2 ≤ h5.2.2 → (∀ a j, ¬ (a = v ∧ (j = 4 ∨ j = 5)) → h5.2.1 a j = h3.2.1 a j) → h5.2.1 v 4 = .int (flagF (addP A a g o (b01 w)) 4) → h5.2.1 v 5 = .int (flagF (addP A a g o (b01 w)) 5) → Ev G m_Va_addPerson 75 [.ref v, un, un, un, un] [] h5 0 0 (vpost v la h (addP A a g o (b01 w))) := by
    intro h5 s1 s2 s3 s4 s5
    have k5 : (h5.1 v).1 = 8 := by rw [s1]; exact k3
    refine e_Va_addPerson_75 hl _ _ v ⟨A 0 0, ⟨k5, by rw [s3 v 0 (by omega)]; exact r0⟩, ⟨hv, k5⟩, rfl, ?_, ?_⟩
    · refine hV3.heads s1 (fun a' j hn => ?_) ?_ ?_ ?_ (fun k j n0 n4 n5 => ?_)
      · rw [hs_ne (by omega), s3 a' j (by omega)]
      · rw [hs_eq, eA, up_same]
      · rw [hs_ne (by omega)]; exact s4
      · rw [hs_ne (by omega)]; exact s5
      · rw [eA, up_ne (by omega), up_ne (by omega), up_ne (by omega)]
    · refine (F3.tr ⟨s1, s2, fun a' j n => s3 a' j (fun z => n ⟨by omega, by omega⟩)⟩).set ⟨by omega, by omega⟩
  rw [eS]
  refine e_Va_addPerson_55 hl _ _ v _ ⟨fun c => ?_, fun c => ⟨_, ⟨k3, by rw [hs_ne (by omega)]; exact e4⟩, A 0 0, ⟨k3, by rw [hs_ne (by omega)]; exact r0⟩, ⟨hv, k3⟩, ?_⟩⟩
  · refine fin _ rfl (Nat.le_refl _) (fun a' j n => hs_ne (by omega)) ?_ (by rw [hs_eq, g5])
    rw [hs_ne (by omega), g4, show b01 w = 0 by unfold b01; rw [if_pos c], if_neg (by decide)]; exact e4
  · rw [eS]
    refine fin _ rfl (Nat.le_refl _) (fun a' j n => by rw [hs_ne (by omega), hs_ne (by omega)]) ?_ (by rw [hs_ne (by omega), hs_eq, g5])
    rw [hs_eq, g4, show b01 w = 1 by unfold b01; rw [if_neg c], if_pos rfl]
theorem c_born (hl : G.1.stackTraces = false) (hx : G.n0 ≤ x) (C : CVl G h x la A T ln im pa r) (W : Wf A) (g : Int32) : EvM G m_Gr_born [.ref x, .int g] h (CA G h x la A T ln im pa r (es3 0 1 1) (aBorn A g)) := by
  unfold aBorn
  refine en_Gr_born h _ x _ (e_Gr_born_0 hl h _ x _ ⟨fun c => ⟨_, c_needNumber0 hl, by decide, fun o h1 z => Or.inr ?_⟩, fun c => ⟨fun d => ⟨_, c_needNumber0 hl, by decide, fun o h1 z => Or.inr ?_⟩, fun d => ⟨_, c_needNumber1 hl, by decide, fun o h1 z => Or.inl ⟨z.1, ?_⟩⟩⟩⟩)
  · rw [if_pos c]; exact CA_th C z (by decide) rfl
  · rw [if_neg c, if_pos d]; exact CA_th C z (by decide) rfl
  · rw [z.2, if_neg c, if_neg d]
    refine ⟨_, C.S.r5, _, C.V.f0, fun f => ⟨_, c_needState0 hl, by decide, fun o h1 z => Or.inr ?_⟩, fun f => ⟨_, c_needState1 hl, by decide, fun o h1 z => Or.inl ⟨z.1, ?_⟩⟩⟩
    · rw [if_pos f]; exact CA_th C z (by decide) rfl
    · rw [z.2, if_neg f]
      have hp : nP A < 7 := by
        rcases Nat.lt_or_ge (nP A) 7 with q | q
        · exact q
        · exact absurd (by rw [W.1.1]; exact nI_le q (by have := W.1.2.1; omega)) f
      refine ⟨C.S.kd, _, c_remember hl hx C, fun o2 h2 y => Or.inl ?_⟩
      obtain ⟨y1, C2, F2⟩ := y
      refine ⟨y1, _, C2.S.r5, C2.V.kd, _, v_addPerson hl (by omega) C2.V W.1 hp 0 g (-1) 0, fun o3 h3 w => Or.inl ?_⟩
      obtain ⟨w1, V3, F3⟩ := w
      have V3' : VlyAt h3 (x + 27) (addP A 0 g (-1) 0) la := V3
      have C3 := C2.now V3' F3
      have f0 := V3'.f0
      rw [show addP A 0 g (-1) 0 0 0 = A 0 0 + 1 by unfold addP; rw [up_same]] at f0
      refine ⟨w1, _, C3.S.r5, _, f0, ?_⟩
      rw [show A 0 0 + 1 - 1 = A 0 0 by grind]
      exact CA_ok C3 (F2.tr (aX_now F3))
end ACT2
