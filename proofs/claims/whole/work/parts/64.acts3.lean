/-! ===== the class: undone, an image, nights ahead, counts ===== -/
def wlthF (B : Vs) : Int32 := worthF B (ownF B (-1))
def spnW (T : Tt) (A : Vs) (n : Nat) (i : Nat) : Int32 := wlthF (passF T n (up A 0 5 (nI (i + 1))))
def spnS (T : Tt) (A : Vs) (n : Nat) (b : Int32) (i : Nat) (f : Int32) : Int32 := if f = -1 then spnW T A n i else if b = 0 then (if f ≤ spnW T A n i then f else spnW T A n i) else (if spnW T A n i ≤ f then f else spnW T A n i)
def spnF (T : Tt) (A : Vs) (n : Nat) (b : Int32) : Int32 := lp (spnS T A n b) 6 (-1)
def cntF (A : Vs) (ln : Int32) (r : Nat) (w : Int32) : Int32 := if noF (nI 12) w = 1 then -1 else (match w.toNatClampNeg with
  | 0 => A 0 0
  | 1 => A 0 1
  | 2 => A 0 6
  | 3 => ln
  | 4 => A 0 3
  | 5 => A 0 4
  | 6 => A 0 2
  | 7 => worthF A (allF A)
  | 8 => inF A 1
  | 9 => inF A 2
  | 10 => A 0 7
  | _ => nI r)
section ACT3
variable {G : Gx} {h h' : Hp} {x v la : Nat} {A A' : Vs} {T : Tt} {ln : Int32} {im : Option Sv} {pa : Nat → Vs} {r : Nat} {es : Int32 → String}
theorem CA_rd {v : Int32} (C : CVl G h' x la A T ln im pa r) (F : Fs (aX x) h h') : CA G h x la A T ln im pa r es ((0, v), none) (.inl (some (.int v))) h' := ⟨cans_ok F, C⟩
theorem aX_sp (F : Fs (inV (x + 38)) h h') : Fs (aX x) h h' := F.mono (fun a j z => by unfold inV at z; unfold aX; omega)
theorem CVl.djS (C : CVl G h x la A T ln im pa r) : Dj (x + 38) la := by
  have := C.L.2.1
  unfold Dj; omega
def spost (G : Gx) (h : Hp) (x la : Nat) (A : Vs) (T : Tt) (ln : Int32) (im : Option Sv) (pa : Nat → Vs) (r : Nat) (B : Vs) : Res → Hp → Prop := fun o h' => o = .inl none ∧ CVl G h' x la A T ln im pa r ∧ VlyAt h' (x + 38) B la ∧ Fs (inV (x + 38)) h h'
theorem c_spare (hl : G.1.stackTraces = false) (hx : G.n0 ≤ x) (C : CVl G h x la A T ln im pa r) : EvM G m_Va_copyFrom [.ref (x + 38), .ref (x + 27)] h (spost G h x la A T ln im pa r A) := by
  refine EvM.post (v_copy hl (by omega) (by unfold Ds; omega) C.V C.S.vs1) (fun o h1 z => ?_)
  obtain ⟨z1, V1, F1⟩ := z
  exact ⟨z1, C.spare V1.vs F1, V1, F1⟩
theorem c_ahead (hl : G.1.stackTraces = false) (hx : G.n0 ≤ x) (C : CVl G h x la A T ln im pa r) (W : Wf A) (p n : Int32) : EvM G m_Gr_ahead [.ref x, .int p, .int n] h (CA G h x la A T ln im pa r (es3 2 0 0) (anP A p (anN (nI 61) n 2 (0, holdF (calmF T n.toNatClampNeg A) p)), none)) := by
  rcases person_cases W.1 p with e | ⟨e, k, hk, rfl⟩
  · rw [anP1 e]
    exact en_Gr_ahead h _ x _ _ (e_Gr_ahead_0 hl h _ x _ _ ⟨C.S.kd, _, c_needPerson0 hl C.S.r5 C.V e, by decide, fun o h1 z => Or.inr (CA_th C z (by decide) rfl)⟩)
  · rw [anP0 e]
    refine en_Gr_ahead h _ x _ _ (e_Gr_ahead_0 hl h _ x _ _ ⟨C.S.kd, _, c_needPerson1 hl C.S.r5 C.V e, by decide, fun o h1 z => Or.inl ⟨z.1, ?_⟩⟩)
    rw [z.2]
    rcases num_cases 61 (by decide) n with ⟨e2, c⟩ | ⟨e2, c1, c2, j, hj, rfl⟩
    · rw [anN1 e2]
      refine ⟨fun d => ⟨_, c_needNumber0 hl, by decide, fun o h1 z => Or.inr (CA_th C z (by decide) rfl)⟩, fun d => ⟨fun f => ⟨_, c_needNumber0 hl, by decide, fun o h1 z => Or.inr (CA_th C z (by decide) rfl)⟩, fun f => ?_⟩⟩
      exfalso
      rcases c with c | c
      · exact d c
      · exact f (Int32.lt_of_lt_of_le (by decide : (60 : Int32) < nI 61) c)
    · rw [anN0 e2, nI_clamp (by omega)]
      refine ⟨fun d => absurd d c1, fun _ => ⟨fun d => absurd d (nI_nlt (by omega : j ≤ 60) (by decide)), fun _ => ⟨_, c_needNumber1 hl, by decide, fun o h1 z => Or.inl ⟨z.1, ?_⟩⟩⟩⟩
      rw [z.2]
      refine ⟨_, C.S.r6, _, C.S.r5, C.S.vs1.kd, _, c_spare hl hx C, fun o2 h2 y => Or.inl ?_⟩
      obtain ⟨y1, C2, V2, F2⟩ := y
      refine ⟨y1, _, C2.S.r6, V2.kd, _, v_calm hl (by omega) C2.djS V2 W C2.L.1 (by omega), fun o3 h3 w => Or.inl ?_⟩
      obtain ⟨w1, V3, F3⟩ := w
      have C3 := C2.spare V3.vs F3
      exact ⟨w1, _, C3.S.r6, V3.kd, _, v_holding hl V3 (W.calm T j).1.1 _, CA_rd C3 ((aX_sp F2).tr (aX_sp F3))⟩
theorem c_trial (hl : G.1.stackTraces = false) (hx : G.n0 ≤ x) (C : CVl G h x la A T ln im pa r) (W : Wf A) (n b : Int32) : EvM G m_Gr_trial [.ref x, .int n, .int b] h (CA G h x la A T ln im pa r (es3 0 0 0) (anN (nI 61) n 1 (0, if b = 0 then flagF (passF T n.toNatClampNeg A) 5 else wlthF (passF T n.toNatClampNeg A)), none)) := by
  rcases num_cases 61 (by decide) n with ⟨e2, c⟩ | ⟨e2, c1, c2, j, hj, rfl⟩
  · rw [anN1 e2]
    refine en_Gr_trial h _ x _ _ (e_Gr_trial_0 hl h _ x _ _ ⟨fun d => ⟨_, c_needNumber0 hl, by decide, fun o h1 z => Or.inr (CA_th C z (by decide) rfl)⟩, fun d => ⟨fun f => ⟨_, c_needNumber0 hl, by decide, fun o h1 z => Or.inr (CA_th C z (by decide) rfl)⟩, fun f => ?_⟩⟩)
    exfalso
    rcases c with c | c
    · exact d c
    · exact f (Int32.lt_of_lt_of_le (by decide : (60 : Int32) < nI 61) c)
  · rw [anN0 e2, nI_clamp (by omega)]
    refine en_Gr_trial h _ x _ _ (e_Gr_trial_0 hl h _ x _ _ ⟨fun d => absurd d c1, fun _ => ⟨fun d => absurd d (nI_nlt (by omega : j ≤ 60) (by decide)), fun _ => ⟨_, c_needNumber1 hl, by decide, fun o h1 z => Or.inl ⟨z.1, ?_⟩⟩⟩⟩)
    rw [z.2]
    refine ⟨_, C.S.r6, _, C.S.r5, C.S.vs1.kd, _, c_spare hl hx C, fun o2 h2 y => Or.inl ?_⟩
    obtain ⟨y1, C2, V2, F2⟩ := y
    refine ⟨y1, _, C2.S.r6, V2.kd, _, v_pass hl (by omega) C2.djS V2 W C2.L.1 (by omega), fun o3 h3 w => Or.inl ?_⟩
    obtain ⟨w1, V3, F3⟩ := w
    have C3 := C2.spare V3.vs F3
    refine ⟨_, w1, fun d => ⟨_, C3.S.r6, _, V3.f5, ?_⟩, fun d => ⟨_, C3.S.r6, V3.kd, _, v_crownWealth hl V3 (W.pass T j).1.1, ?_⟩⟩
    · rw [if_pos d]; exact CA_rd C3 ((aX_sp F2).tr (aX_sp F3))
    · rw [if_neg d]; exact CA_rd C3 ((aX_sp F2).tr (aX_sp F3))
theorem c_span (hl : G.1.stackTraces = false) (hx : G.n0 ≤ x) (C : CVl G h x la A T ln im pa r) (W : Wf A) (n b : Int32) : EvM G m_Gr_span [.ref x, .int n, .int b] h (CA G h x la A T ln im pa r (es3 0 0 0) (anN (nI 61) n 1 (0, spnF T A n.toNatClampNeg b), none)) := by
  rcases num_cases 61 (by decide) n with ⟨e2, c⟩ | ⟨e2, c1, c2, j, hj, rfl⟩
  · rw [anN1 e2]
    refine en_Gr_span h _ x _ _ (e_Gr_span_0 hl h _ x _ _ ⟨fun d => ⟨_, c_needNumber0 hl, by decide, fun o h1 z => Or.inr (CA_th C z (by decide) rfl)⟩, fun d => ⟨fun f => ⟨_, c_needNumber0 hl, by decide, fun o h1 z => Or.inr (CA_th C z (by decide) rfl)⟩, fun f => ?_⟩⟩)
    exfalso
    rcases c with c | c
    · exact d c
    · exact f (Int32.lt_of_lt_of_le (by decide : (60 : Int32) < nI 61) c)
  · rw [anN0 e2, nI_clamp (by omega)]
    refine en_Gr_span h _ x _ _ (e_Gr_span_0 hl h _ x _ _ ⟨fun d => absurd d c1, fun _ => ⟨fun d => absurd d (nI_nlt (by omega : j ≤ 60) (by decide)), fun _ => ⟨_, c_needNumber1 hl, by decide, fun o h1 z => Or.inl ⟨z.1, ?_⟩⟩⟩⟩)
    rw [z.2]
    refine for_up (Q := fun t => ∀ h1, CVl G h1 x la A T ln im pa r → Fs (aX x) h h1 → Ev G m_Gr_span 23 [.ref x, .int (nI j), .int b, .int (lp (spnS T A j b) t (-1)), .int (nI (t + 1)), un] [] h1 (0 + 1) (0 + 6) (CA G h x la A T ln im pa r (es3 0 0 0) ((0, spnF T A j b), none))) (n := 6) (fun h1 C1 F1 => ?_) (fun t ht ih h1 C1 F1 => ?_) 0 (Nat.zero_le _) h C Fs.rf
    · exact e_Gr_span_23 hl h1 _ x _ _ _ _ _ _ ⟨fun _ => CA_rd C1 F1, fun c => absurd (by decide) c⟩
    · simp only [lp] at ih
      generalize lp (spnS T A j b) t (-1) = f at *
      refine e_Gr_span_23 hl h1 _ x _ _ _ _ _ _ ⟨fun c => absurd c (nI_nlt (by omega : t + 1 ≤ 6) (by decide)), fun _ => ⟨_, C1.S.r6, _, C1.S.r5, C1.S.vs1.kd, _, c_spare hl hx C1, fun o2 h2 y => Or.inl ?_⟩⟩
      obtain ⟨y1, C2, V2, F2⟩ := y
      have V2' := V2.set (k := 0) (j := 5) (Or.inl ⟨rfl, by decide⟩) (by omega) (nI (t + 1))
      have F2' : Fs (inV (x + 38)) h2 (hset h2 (x + 38) 15 (.int (nI (t + 1)))) := Fs.rf.set ⟨by omega, by omega⟩
      have C2' := C2.spare V2'.vs F2'
      have W2 := W.up0 (j := 5) (by omega) (nI (t + 1))
      refine ⟨y1, _, C2.S.r6, ⟨by omega, V2.kd⟩, e_Gr_span_50 hl _ _ x _ _ _ _ _ _ ⟨_, C2'.S.r6, V2'.kd, _, v_pass hl (by omega) C2'.djS V2' W2 C2'.L.1 (by omega), fun o3 h3 w => Or.inl ?_⟩⟩
      obtain ⟨w1, V3, F3⟩ := w
      have C3 := C2'.spare V3.vs F3
      have F4 : Fs (aX x) h h3 := ((F1.tr (aX_sp F2)).tr (aX_sp F2')).tr (aX_sp F3)
      have st : ∀ y, y = spnS T A j b t f → Ev G m_Gr_span 23 [.ref x, .int (nI j), .int b, .int y, .int (nI (t + 1) + 1), un] [] h3 (0 + 1) (0 + 6) (CA G h x la A T ln im pa r (es3 0 0 0) ((0, spnF T A j b), none)) := fun y e => by rw [e, nI_1]; exact ih h3 C3 F4
      refine ⟨_, w1, _, C3.S.r6, V3.kd, spnW T A j t, v_crownWealth hl V3 (W2.pass T j).1.1, fun d => st _ ?_, fun d => ⟨fun f1 => ⟨fun g => st _ ?_, fun g => st _ ?_⟩, fun f1 => ⟨fun g => st _ ?_, fun g => st _ ?_⟩⟩⟩
      · unfold spnS; rw [if_pos d]
      · unfold spnS; rw [if_neg d, if_pos f1, if_pos g]
      · unfold spnS; rw [if_neg d, if_pos f1, if_neg g]
      · unfold spnS; rw [if_neg d, if_neg f1, if_pos g]
      · unfold spnS; rw [if_neg d, if_neg f1, if_neg g]
theorem c_seed (hl : G.1.stackTraces = false) (hx : G.n0 ≤ x) (C : CVl G h x la A T ln im pa r) (n : Int32) : EvM G m_Gr_seed [.ref x, .int n] h (fun o h' => o = .inl (some (.int (A 0 5))) ∧ CVl G h' x la (up A 0 5 n) T ln im pa r ∧ Fs (aX x) h h') := by
  have V1 := C.V.set (k := 0) (j := 5) (Or.inl ⟨rfl, by decide⟩) (by omega) n
  have F1 : Fs (inV (x + 27)) h (hset h (x + 27) 15 (.int n)) := Fs.rf.set ⟨by omega, by omega⟩
  exact en_Gr_seed h _ x _ (e_Gr_seed_0 hl h _ x _ ⟨_, C.S.r5, _, C.V.f15, _, C.S.r5, ⟨by omega, C.V.kd⟩, e_Gr_seed_16 hl _ _ _ ⟨rfl, C.now V1 F1, aX_now F1⟩⟩)
theorem c_undo0 (hl : G.1.stackTraces = false) (C : CVl G h x la A T ln im pa 0) : EvM G m_Gr_undo [.ref x] h (fun o h' => o = .inl (some (.int 0)) ∧ h' = h) := by
  obtain ⟨S, V, L, I, np, n1, n2, n3, n4, n5⟩ := C
  exact en_Gr_undo h _ x (e_Gr_undo_0 hl h _ x ⟨_, ⟨S.kd, n3⟩, fun q => absurd rfl q, fun _ => ⟨rfl, rfl⟩⟩)
theorem c_undo1 (hl : G.1.stackTraces = false) (hx : G.n0 ≤ x) (C : CVl G h x la A T ln im pa (r + 1)) : EvM G m_Gr_undo [.ref x] h (fun o h' => o = .inl (some (.int 1)) ∧ CVl G h' x la (pa 0) T ln im (fun i => pa (i + 1)) r ∧ Fs (aX x) h h') := by
  obtain ⟨S, V, L, I, np, n1, n2, n3, n4, n5⟩ := C
  have e1 : nI (r + 1) - 1 = nI r := pk_sub (a := r + 1) (b := 1) (by omega)
  have em : nI np + 12 - 1 - (nI np + 12 - 1) / 12 * 12 = nI ((np + 11) % 12) := by
    rw [show nI np + 12 - 1 = nI (np + 11) by rw [show (12 : Int32) = nI 12 from rfl, nI_add, show (1 : Int32) = nI 1 from rfl, pk_sub (by omega)]; exact congrArg nI (by omega)]
    exact pk_rem (by omega) (by decide) (by decide)
  refine en_Gr_undo h _ x (e_Gr_undo_0 hl h _ x ⟨_, ⟨S.kd, n3⟩, fun _ => ⟨_, ⟨S.kd, n3⟩, ⟨hx, S.kd⟩, ?_⟩, fun q => absurd q (nI_ne0 (by omega) (by omega))⟩)
  rw [e1]
  refine e_Gr_undo_19 hl _ _ x ⟨nI np, ⟨S.kd, by rw [hs_ne (by omega)]; exact n4⟩, by decide, ⟨hx, S.kd⟩, ?_⟩
  rw [em]
  have F1 : Fs (pX x (x + 27)) h (hset (hset h x 10 (.int (nI r))) x 11 (.int (nI ((np + 11) % 12)))) := (Fs.rf.set (Or.inl ⟨rfl, by decide⟩)).set (Or.inl ⟨rfl, by decide⟩)
  have V1 := V.keep (h' := hset (hset h x 10 (.int (nI r))) x 11 (.int (nI ((np + 11) % 12)))) (fun a h1 h2 => ⟨rfl, by rw [hset_ne (by omega), hset_ne (by omega)]⟩)
  have S1 := S.offX F1 (i0 := 0) rfl V1.vs
  have P1 := (n5 0 (by omega)).offX F1 (by omega) (by omega)
  rw [show np + 11 - 0 = np + 11 from rfl] at P1
  refine e_Gr_undo_35 hl _ _ x ⟨_, S1.r5, _, S1.r8, nI ((np + 11) % 12), ⟨S.kd, hs_eq⟩, _, S1.past (by omega), V1.kd, _, v_copy hl (by omega) (by unfold Ds; omega) P1 V1.vs, fun o2 h2 z => Or.inl ?_⟩
  obtain ⟨z1, V2, F2⟩ := z
  have k : ∀ j, h2.2.1 x j = (hset (hset h x 10 (.int (nI r))) x 11 (.int (nI ((np + 11) % 12)))).2.1 x j := fun j => F2.2.2 x j (by unfold inV; omega)
  have F3 : Fs (pX x (x + 27)) h h2 := F1.tr (pX_of F2)
  refine ⟨z1, rfl, ⟨S.offX F3 (i0 := 0) rfl V2.vs, V2, L.offX F3 (by omega) (by omega), I.offX F3 (by rw [k, hs_ne (by omega), hs_ne (by omega)]) (by omega) (by omega) (by omega), (np + 11) % 12, by omega, by omega, by rw [k, hs_ne (by omega), hs_eq], by rw [k, hs_eq], fun i hi => ?_⟩, pX_aX F3 (by omega) (by omega)⟩
  have := (n5 (i + 1) (by omega)).offX F3 (by omega) (by omega)
  rw [show ((np + 11) % 12 + 11 - i) % 12 = (np + 11 - (i + 1)) % 12 by omega]
  exact this
theorem c_forget (hl : G.1.stackTraces = false) (hx : G.n0 ≤ x) (C : CVl G h x la A T ln im pa r) (pa' : Nat → Vs) : EvM G m_Gr_forgetActs [.ref x] h (fun o h' => o = .inl none ∧ CVl G h' x la A T ln im pa' 0 ∧ Fs (aX x) h h') := by
  obtain ⟨S, V, L, I, np, n1, n2, n3, n4, n5⟩ := C
  have F1 : Fs (pX x (x + 27)) h (hset h x 10 (.int 0)) := Fs.rf.set (Or.inl ⟨rfl, by decide⟩)
  have V1 := V.keep (h' := hset h x 10 (.int 0)) (fun a h1 h2 => ⟨rfl, by rw [hset_ne (by omega)]⟩)
  exact en_Gr_forgetActs h _ x (e_Gr_forgetActs_0 hl h _ x ⟨⟨hx, S.kd⟩, rfl, ⟨S.offX F1 (i0 := 0) rfl V1.vs, V1, L.offX F1 (by omega) (by omega), I.offX F1 (by rw [hs_ne (by omega)]) (by omega) (by omega) (by omega), np, n1, by omega, hs_eq, by rw [hs_ne (by omega)]; exact n4, fun i hi => absurd hi (Nat.not_lt_zero _)⟩, pX_aX F1 (by omega) (by omega)⟩)
theorem c_image (hl : G.1.stackTraces = false) (hx : G.n0 ≤ x) (C : CVl G h x la A T ln im pa r) : EvM G m_Gr_image [.ref x] h (fun o h' => o = .inl none ∧ CVl G h' x la A T ln (some (A, T, ln)) pa r ∧ Fs (aX x) h h') := by
  obtain ⟨S, V, L, I, np, n1, n2, n3, n4, n5⟩ := C
  refine en_Gr_image h _ x (e_Gr_image_0 hl h _ x ⟨_, S.r7, _, S.r5, S.vs2.kd, _, v_copy hl (by omega) (by unfold Ds; omega) V S.vs2, fun o h1 z => Or.inl ?_⟩)
  obtain ⟨z1, V1, F1⟩ := z
  have kd1 : (h1.1 x).1 = 10 := by rw [F1.1]; exact S.kd
  have k : ∀ j, h1.2.1 x j = h.2.1 x j := fun j => F1.2.2 x j (by unfold inV; omega)
  have F2 : Fs (pX x (x + 49)) h (hset h1 x 9 (.int 1)) := (pX_of (x := x) F1).set (Or.inl ⟨rfl, by decide⟩)
  have V2 := V1.keep (h' := hset h1 x 9 (.int 1)) (fun a h1 h2 => ⟨rfl, by rw [hset_ne (by omega)]⟩)
  have L2 := L.offX F2 (by omega) (by omega)
  exact ⟨z1, ⟨hx, kd1⟩, rfl, ⟨S.offX F2 (i0 := 2) rfl V2.vs, V.offX F2 (by omega) (by omega), L2, ⟨hs_eq, la, V2, L2⟩, np, n1, n2, by rw [hs_ne (by omega), k]; exact n3, by rw [hs_ne (by omega), k]; exact n4, fun i hi => (n5 i hi).offX F2 (by omega) (by omega)⟩, pX_aX F2 (by omega) (by omega)⟩
theorem c_back0 (hl : G.1.stackTraces = false) (C : CVl G h x la A T ln none pa r) : EvM G m_Gr_back [.ref x] h (fun o h' => o = .inl (some (.int 0)) ∧ h' = h) := by
  obtain ⟨S, V, L, I, np, n1, n2, n3, n4, n5⟩ := C
  exact en_Gr_back h _ x (e_Gr_back_0 hl h _ x ⟨_, ⟨S.kd, I⟩, fun q => absurd rfl q, fun _ => ⟨rfl, rfl⟩⟩)
theorem c_back1 (hl : G.1.stackTraces = false) (hx : G.n0 ≤ x) {B : Sv} (C : CVl G h x la A T ln (some B) pa r) (pa' : Nat → Vs) : EvM G m_Gr_back [.ref x] h (fun o h' => o = .inl (some (.int 1)) ∧ (∃ li, CVl G h' x li B.1 B.2.1 B.2.2 (some B) pa' 0) ∧ Fs (aX x) h h') := by
  obtain ⟨S, V, L, ⟨i1, li, IV, IL⟩, np, n1, n2, n3, n4, n5⟩ := C
  refine en_Gr_back h _ x (e_Gr_back_0 hl h _ x ⟨_, ⟨S.kd, i1⟩, fun _ => ⟨_, S.r5, _, S.r7, V.kd, _, v_copy hl (by omega) (by unfold Ds; omega) IV V.vs, fun o h1 z => Or.inl ?_⟩, fun q => absurd q (by decide)⟩)
  obtain ⟨z1, V1, F1⟩ := z
  have F2 : Fs (pX x (x + 27)) h h1 := pX_of F1
  have F3 : Fs (pX x (x + 27)) h (hset h1 x 10 (.int 0)) := F2.set (Or.inl ⟨rfl, by decide⟩)
  have S1 := S.offX F2 (i0 := 0) rfl V1.vs
  have k : ∀ j, h1.2.1 x j = h.2.1 x j := fun j => F1.2.2 x j (by unfold inV; omega)
  have V2 := V1.keep (h' := hset h1 x 10 (.int 0)) (fun a h1 h2 => ⟨rfl, by rw [hset_ne (by omega)]⟩)
  refine ⟨z1, S1.kd, fun o h' => o = .inl none ∧ h' = hset h1 x 10 (.int 0), en_Gr_forgetActs _ _ x (e_Gr_forgetActs_0 hl _ _ x ⟨⟨hx, S1.kd⟩, rfl, rfl⟩), fun o2 h2 y => Or.inl ⟨y.1, ?_⟩⟩
  rw [y.2]
  exact ⟨rfl, ⟨li, S.offX F3 (i0 := 0) rfl V2.vs, V2, IL.offX F3 (by omega) (by omega), ⟨by rw [hs_ne (by omega), k]; exact i1, li, IV.offX F3 (by omega) (by omega), IL.offX F3 (by omega) (by omega)⟩, np, n1, by omega, hs_eq, by rw [hs_ne (by omega), k]; exact n4, fun i hi => absurd hi (Nat.not_lt_zero _)⟩, pX_aX F3 (by omega) (by omega)⟩
theorem c_count (hl : G.1.stackTraces = false) (C : CVl G h x la A T ln im pa r) (W : Wf A) (w : Int32) : EvI G m_Gr_count [.ref x, .int w] h (cntF A ln r w) := by
  have S := C.S
  have V := C.V
  have f10 : fI h 10 x 10 (nI r) := by obtain ⟨-, -, -, -, np, -, -, n3, -⟩ := C; exact ⟨S.kd, n3⟩
  refine en_Gr_count h _ x _ (e_Gr_count_0 hl h _ x _ ?_)
  unfold cntF
  rcases num_cases 12 (by decide) w with ⟨e, c⟩ | ⟨e, c1, c2, j, hj, rfl⟩
  · rw [if_pos e]
    have no : ∀ k, k < 12 → w = nI k → False := fun k hk q => by
      rcases c with c | c
      · rw [q] at c; exact nI_pos (by omega) c
      · rw [q] at c; exact nI_ge hk (by decide) c
    exact ⟨⟨fun q => (no 0 (by decide) q).elim, fun q => (no 1 (by decide) q).elim, fun q => (no 2 (by decide) q).elim, fun q => (no 3 (by decide) q).elim, fun q => (no 4 (by decide) q).elim, fun q => (no 5 (by decide) q).elim, fun q => (no 6 (by decide) q).elim, fun q => (no 7 (by decide) q).elim, fun q => (no 8 (by decide) q).elim, fun q => (no 9 (by decide) q).elim, fun q => (no 10 (by decide) q).elim, fun q => (no 11 (by decide) q).elim, trivial⟩, fun _ => ⟨rfl, rfl⟩⟩
  · rw [if_neg (by rw [e]; decide), nI_clamp (by omega)]
    have is : ∀ k, k < 12 → nI j = nI k → j = k := fun k hk q => (nI_eq (by omega) (by omega)).mp q
    refine ⟨⟨fun q => ?_, fun q => ?_, fun q => ?_, fun q => ?_, fun q => ?_, fun q => ?_, fun q => ?_, fun q => ?_, fun q => ?_, fun q => ?_, fun q => ?_, fun q => ?_, trivial⟩, fun q => absurd q (by rintro (y | y); exact c1 y; exact c2 y)⟩
    · have := is 0 (by decide) q; subst this; exact ⟨_, S.r5, _, V.f0, rfl, rfl⟩
    · have := is 1 (by decide) q; subst this; exact ⟨_, S.r5, _, V.f6, rfl, rfl⟩
    · have := is 2 (by decide) q; subst this; exact ⟨_, S.r5, _, V.f16, rfl, rfl⟩
    · have := is 3 (by decide) q; subst this; exact ⟨_, S.r5, _, V.r17, _, C.L.2.2.2, rfl, rfl⟩
    · have := is 4 (by decide) q; subst this; exact ⟨_, S.r5, _, V.f13, rfl, rfl⟩
    · have := is 5 (by decide) q; subst this; exact ⟨_, S.r5, _, V.f14, rfl, rfl⟩
    · have := is 6 (by decide) q; subst this; exact ⟨_, S.r5, _, V.f12, rfl, rfl⟩
    · have := is 7 (by decide) q; subst this; exact ⟨_, S.r5, _, S.r5, V.kd, _, v_allThings hl V, V.kd, _, v_worthOf hl V W.1 _, rfl, rfl⟩
    · have := is 8 (by decide) q; subst this; exact ⟨_, S.r5, V.kd, _, v_howManyIn hl V W.1 _, rfl, rfl⟩
    · have := is 9 (by decide) q; subst this; exact ⟨_, S.r5, V.kd, _, v_howManyIn hl V W.1 _, rfl, rfl⟩
    · have := is 10 (by decide) q; subst this; exact ⟨_, S.r5, _, V.r18, _, ⟨V.2.2.2.kd, V.2.2.2.2.1⟩, rfl, rfl⟩
    · have := is 11 (by decide) q; subst this; exact ⟨_, f10, rfl, rfl⟩
end ACT3
