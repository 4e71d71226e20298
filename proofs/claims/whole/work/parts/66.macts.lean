/-! ===== acts of the reference ===== -/
def mapost (G : Gx) (h : Hp) (m : Nat) (A : Vs) (T : Tt) (ln : Int32) (im : Option Sv) (pa : Nat → Vs) (r : Nat) (v : Int32) (A' : Vs) : Res → Hp → Prop := fun o h' => o = .inl (some (.int v)) ∧ MV G h' m A' T ln im (pcons A pa) (min (r + 1) 12) ∧ Fs (mA m) h h' ∧ h'.2.1 m 0 = h.2.1 m 0
theorem mA_0 {m : Nat} {h : Hp} {c : Int32} : Fs (mA m) h (hset h m 0 (.int c)) := Fs.rf.set (Or.inl ⟨rfl, Or.inl rfl⟩)
theorem mW_A {m : Nat} {h h' : Hp} (F : Fs (mW m) h h') : Fs (mA m) h h' := F.mono (fun _ _ z => mU_A (mW_U z))
theorem mW_0 {m : Nat} {h h' : Hp} (F : Fs (mW m) h h') : h'.2.1 m 0 = h.2.1 m 0 := F.2.2 m 0 (by unfold mW; omega)
section MACT
variable {G : Gx} {h h' g : Hp} {m : Nat} {A A' : Vs} {T : Tt} {ln : Int32} {im : Option Sv} {pa : Nat → Vs} {r : Nat}
theorem MA_no' (M : MV G g m A T ln im pa r) (F : Fs (mA m) h g) (k : Int32) : MA G h m A T ln im pa r (no_ k) (.inl (some (.int 0))) (hset g m 0 (.int k)) := ⟨rfl, hs_eq, F.set (Or.inl ⟨rfl, Or.inl rfl⟩), M.thr k⟩
theorem MA_of' (F : Fs (mA m) h g) (e : g.2.1 m 0 = .int 0) {v : Int32} {o : Res} (z : mapost G g m A T ln im pa r v A' o h') : MA G h m A T ln im pa r (yes_ v A') o h' := by
  obtain ⟨z1, z2, z3, z4⟩ := z
  exact ⟨z1, by rw [z4]; exact e, F.tr z3, z2⟩
theorem MA_of {v : Int32} {o : Res} (z : mapost G (hset h m 0 (.int 0)) m A T ln im pa r v A' o h') : MA G h m A T ln im pa r (yes_ v A') o h' := MA_of' mA_0 hs_eq z
/-- after an act is remembered, a change of the world -/
theorem mapost_of {h2 h3 : Hp} {o2 : Res} (z : mrpost G h m A T ln im pa r o2 h2) (W : WldAt h3 m A') (F : Fs (mW m) h2 h3) (v : Int32) : mapost G h m A T ln im pa r v A' (.inl (some (.int v))) h3 := by
  obtain ⟨-, M2, F2, e2⟩ := z
  exact ⟨rfl, M2.kw W F, F2.tr (mW_A F), by rw [mW_0 F]; exact e2⟩
theorem o_free (hl : G.1.stackTraces = false) (W : WldAt h m A) {t : Nat} (ht : t < 10) : EvI G m_Mo_isFree [.ref m, .int (nI t)] h (if A 9 t = 0 ∧ A 8 t ≠ -1 then 1 else 0) := by
  have e : (if A 9 t = 0 then (if A 8 t = -1 then (0 : Int32) else 1) else 0) = (if A 9 t = 0 ∧ A 8 t ≠ -1 then 1 else 0) := by
    by_cases c : A 9 t = 0
    · by_cases d : A 8 t = -1
      · rw [if_pos c, if_pos d, if_neg (fun z => z.2 d)]
      · rw [if_pos c, if_neg d, if_pos ⟨c, d⟩]
    · rw [if_neg c, if_neg (fun z => c z.1)]
  rw [← e]; exact o_isFree hl W ht
theorem o_isPutBy (hl : G.1.stackTraces = false) (hm : G.n0 ≤ m) (M : MV G h m A T ln im pa r) {t : Nat} (ht : t < 10) : EvM G m_Mo_isPutBy [.ref m, .int (nI t)] h (mapost G h m A T ln im pa r (A 10 t) (mvA A t 0 (-1))) := by
  refine en_Mo_isPutBy h _ m _ (e_Mo_isPutBy_0 hl h _ m _ ⟨M.W.kd, _, o_remembers hl hm M, fun o2 h2 z => Or.inl ?_⟩)
  have M2 := z.2.1
  refine ⟨z.1, M2.W.kd, _, o_ofThing hl M2.W ht (f := 4) (by decide), M2.W.kd, _, o_lies hl hm M2.W ht 0 (-1) (fun _ => rfl), fun o3 h3 y => Or.inl ⟨y.1, ?_⟩⟩
  exact mapost_of z y.2.1 y.2.2 _
theorem o_isNow (hl : G.1.stackTraces = false) (hm : G.n0 ≤ m) (M : MV G h m A T ln im pa r) {k j n : Nat} (hd : dom k j) (ha : ad k j = n) (hn3 : n ≠ 3) (x : Int32) : EvM G m_Mo_isNow [.ref m, .int (nI n), .int x] h (mapost G h m A T ln im pa r (A k j) (up A k j x)) := by
  have hn : n < 394 := by rw [← ha]; exact ad_lt hd
  refine en_Mo_isNow h _ m _ _ (e_Mo_isNow_0 hl h _ m _ _ ⟨M.W.kd, _, o_remembers hl hm M, fun o2 h2 z => Or.inl ?_⟩)
  have M2 := z.2.1
  refine ⟨z.1, _, M2.W.r1, _, M2.W.at hd ha, _, M2.W.r1, M2.W.wr hm (by omega), ?_⟩
  rw [nI_clamp (by omega)]
  exact e_Mo_isNow_18 hl _ _ _ (mapost_of z (M2.W.set hd ha x) (Fs.rf.set (mW_at hn hn3)) _)
theorem o_tn (hl : G.1.stackTraces = false) {x c : Int32} (e : noF (nI 61) x = c) : EvI G m_Mo_noNights [.int x] h c := by
  have k := in_no4 (w := x) 60 (by decide)
  refine en_Mo_noNights h _ _ (e_Mo_noNights_0 hl h _ _ ⟨_, o_in hl x 0 60, fun q => ⟨?_, rfl⟩, fun q => ⟨?_, rfl⟩⟩)
  · rcases num_cases 61 (by decide) x with ⟨e2, -⟩ | ⟨e2, -⟩
    · exact absurd (k.1 e2) q
    · rw [← e, e2]
  · rcases num_cases 61 (by decide) x with ⟨e2, -⟩ | ⟨e2, -⟩
    · rw [← e, e2]
    · have := k.2 e2; rw [show (60 : Int32) = nI 60 from rfl, this] at q; exact absurd q (by decide)
theorem p_nights (hl : G.1.stackTraces = false) (hm : G.n0 ≤ m) (M : MV G h m A T ln im pa r) (F : Wf A) (n : Int32) : EvM G m_Mo_nights [.ref m, .int n] h (MA G h m A T ln im pa r (aNights T A n)) := by
  have M0 := M.thr 0
  unfold aNights
  refine en_Mo_nights h _ m _ (e_Mo_nights_0 hl h _ m _ ⟨⟨hm, M.W.kd⟩, e_Mo_nights_5 hl _ _ m _ ⟨_, o_in hl _ _ _, fun c => ⟨M0.W.kd, _, o_thr0 hl 1, fun o h1 z => Or.inl ⟨0, z.1, fun _ => ?_, fun q => absurd rfl q⟩⟩, fun c => ⟨M0.W.kd, _, o_thr1 hl hm M0.W 1, fun o h1 z => Or.inl ⟨1, z.1, fun q => absurd q (by decide), fun _ => ?_⟩⟩⟩⟩)
  · rw [z.2]
    by_cases c1 : n < 1
    · rw [if_pos c1] at c; exact absurd rfl c
    · rw [if_neg c1] at c
      by_cases c2 : 60 < n
      · rw [if_pos c2] at c; exact absurd rfl c
      · rw [if_neg c1, if_neg c2]
        obtain ⟨k, hk, rfl⟩ := nI_of (x := n) (fun q => c1 (Int32.lt_trans q (by decide)))
        rw [nI_clamp hk]
        refine ⟨M0.W.kd, _, o_remembers hl hm M0, fun o2 h2 y => Or.inl ?_⟩
        have M2 := y.2.1
        exact ⟨y.1, M2.W.kd, _, o_goesOn hl hm M2.W F M2.L hk, fun o3 h3 w => Or.inl ⟨_, w.1, MA_of (mapost_of y w.2.1 w.2.2 _)⟩⟩
  · rw [z.2]
    by_cases c1 : n < 1
    · rw [if_pos c1]; exact MA_no M 1
    · by_cases c2 : 60 < n
      · rw [if_neg c1, if_pos c2]; exact MA_no M 1
      · rw [if_neg c1, if_neg c2] at c; exact absurd c (by decide)
theorem p_lay (hl : G.1.stackTraces = false) (hm : G.n0 ≤ m) (M : MV G h m A T ln im pa r) (F : Wf A) (t p : Int32) : EvM G m_Mo_lay [.ref m, .int t, .int p] h (MA G h m A T ln im pa r (aLay A t p)) := by
  have M0 := M.thr 0
  unfold aLay
  by_cases bad : noF (A 0 0) p = 1 ∨ noF (A 0 1) t = 1
  · have : (if noF (A 0 1) t = 1 then no_ 1 else if noF (A 0 0) p = 1 then no_ 1 else if (A 9 t.toNatClampNeg = 0 ∧ A 8 t.toNatClampNeg ≠ -1) ∧ A 5 p.toNatClampNeg = 1 then yes_ (bcF (clothF (mvA A t.toNatClampNeg 2 p) p)) (mvA A t.toNatClampNeg 2 p) else no_ 2) = no_ 1 := by
      by_cases e : noF (A 0 1) t = 1
      · rw [if_pos e]
      · rw [if_neg e, if_pos (bad.resolve_right e)]
    rw [this]
    refine en_Mo_lay h _ m _ _ (e_Mo_lay_0 hl h _ m _ _ ⟨M.W.kd, _, p_noBoth1 hl hm M.W F bad, fun o h1 z => Or.inl ⟨1, z.1, fun _ => ?_, fun q => absurd q (by decide)⟩⟩)
    rw [z.2]; exact MA_no M 1
  · rcases thing_cases F.1 t with e | ⟨e, k, hk, rfl⟩
    · exact absurd (Or.inr e) bad
    · rcases person_cases F.1 p with e2 | ⟨e2, j, hj, rfl⟩
      · exact absurd (Or.inl e2) bad
      · have k10 := F.1.T10 hk
        have j7 := F.1.P7 hj
        rw [if_neg (by rw [e]; decide), if_neg (by rw [e2]; decide), nI_clamp (show k < 2 ^ 31 by omega), nI_clamp (show j < 2 ^ 31 by omega)]
        refine en_Mo_lay h _ m _ _ (e_Mo_lay_0 hl h _ m _ _ ⟨M.W.kd, _, p_noBoth0 hl hm M.W F e2 e, fun o h1 z => Or.inl ⟨0, z.1, fun q => absurd rfl q, fun _ => ?_⟩⟩)
        rw [z.2]
        refine ⟨M0.W.kd, _, o_free hl M0.W k10, fun c => ⟨M0.W.kd, _, o_thr1 hl hm M0.W 2, fun o h1 z => Or.inl ⟨1, z.1, fun q => absurd q (by decide), fun _ => ?_⟩⟩, fun c => ⟨M0.W.kd, _, o_lives hl M0.W j7, fun d => ⟨M0.W.kd, _, o_thr0 hl 2, fun o h1 z => Or.inl ⟨0, z.1, fun _ => ?_, fun q => absurd rfl q⟩⟩, fun d => ⟨M0.W.kd, _, o_thr1 hl hm M0.W 2, fun o h1 z => Or.inl ⟨1, z.1, fun q => absurd q (by decide), fun _ => ?_⟩⟩⟩⟩
        · rw [z.2, if_neg (fun q => ite0 c q.1)]; exact MA_no M 2
        · rw [z.2, if_pos ⟨ite1 c, ite1 d⟩]
          refine ⟨M0.W.kd, _, o_remembers hl hm M0, fun o2 h2 y => Or.inl ?_⟩
          have M2 := y.2.1
          refine ⟨y.1, M2.W.kd, _, o_lies hl hm M2.W k10 2 (nI j) (fun q => absurd q (by decide)), fun o3 h3 w => Or.inl ?_⟩
          have B3 : Bd (mvA A k 2 (nI j)) := Bd_up (Bd_up F.1 (by omega)) (by omega)
          exact ⟨w.1, w.2.1.kd, _, o_onClothOf hl w.2.1 B3 _, _, j_bitCount hl _, MA_of (mapost_of y w.2.1 w.2.2 _)⟩
        · rw [z.2, if_neg (fun q => ite0 d q.2)]; exact MA_no M 2
theorem p_clear (hl : G.1.stackTraces = false) (hm : G.n0 ≤ m) (M : MV G h m A T ln im pa r) (F : Wf A) (t : Int32) : EvM G m_Mo_clear [.ref m, .int t] h (MA G h m A T ln im pa r (aClear A t)) := by
  have M0 := M.thr 0
  unfold aClear
  refine en_Mo_clear h _ m _ (e_Mo_clear_0 hl h _ m _ ⟨⟨hm, M.W.kd⟩, e_Mo_clear_5 hl _ _ m _ ?_⟩)
  rcases thing_cases F.1 t with e | ⟨e, k, hk, rfl⟩
  · rw [if_pos e]
    exact ⟨M0.W.kd, 1, o_noTe hl M0.W F.1 e, M0.W.kd, _, o_thr1 hl hm M0.W 1, fun o h1 z => Or.inl ⟨1, z.1, fun _ => by rw [z.2]; exact MA_no M 1, fun q => absurd q (by decide)⟩⟩
  · have k10 := F.1.T10 hk
    rw [if_neg (by rw [e]; decide), nI_clamp (by omega)]
    refine ⟨M0.W.kd, 0, o_noTe hl M0.W F.1 e, M0.W.kd, _, o_thr0 hl 1, fun o h1 z => Or.inl ⟨0, z.1, fun q => absurd rfl q, fun _ => ?_⟩⟩
    rw [z.2]
    refine ⟨M0.W.kd, _, o_ofThing hl M0.W k10 (f := 3) (by decide), fun c => ⟨M0.W.kd, _, o_thr0 hl 2, fun o h1 z => Or.inl ⟨0, z.1, fun _ => ?_, fun q => absurd rfl q⟩⟩, fun c => ⟨M0.W.kd, _, o_thr1 hl hm M0.W 2, fun o h1 z => Or.inl ⟨1, z.1, fun q => absurd q (by decide), fun _ => ?_⟩⟩⟩
    · rw [z.2, if_pos c]
      exact ⟨M0.W.kd, _, o_isPutBy hl hm M0 k10, fun o2 h2 y => Or.inl ⟨_, y.1, MA_of (y.1 ▸ y)⟩⟩
    · rw [z.2, if_neg c]; exact MA_no M 2
theorem p_open (hl : G.1.stackTraces = false) (hm : G.n0 ≤ m) (M : MV G h m A T ln im pa r) (F : Wf A) (p : Int32) : EvM G m_Mo_open [.ref m, .int p] h (MA G h m A T ln im pa r (aOpen A p)) := by
  have M0 := M.thr 0
  unfold aOpen
  refine en_Mo_open h _ m _ (e_Mo_open_0 hl h _ m _ ⟨⟨hm, M.W.kd⟩, e_Mo_open_5 hl _ _ m _ ?_⟩)
  rcases person_cases F.1 p with e | ⟨e, k, hk, rfl⟩
  · rw [if_pos e]
    exact ⟨M0.W.kd, 1, o_noPe hl M0.W F.1 e, M0.W.kd, _, o_thr1 hl hm M0.W 1, fun o h1 z => Or.inl ⟨1, z.1, fun _ => by rw [z.2]; exact MA_no M 1, fun q => absurd q (by decide)⟩⟩
  · rw [if_neg (by rw [e]; decide)]
    refine ⟨M0.W.kd, 0, o_noPe hl M0.W F.1 e, M0.W.kd, _, o_thr0 hl 1, fun o h1 z => Or.inl ⟨0, z.1, fun q => absurd rfl q, fun _ => ?_⟩⟩
    rw [z.2]
    refine ⟨M0.W.kd, _, o_heldBy hl M0.W F _, fun c => ⟨M0.W.kd, _, o_thr0 hl 2, fun o h1 z => Or.inl ⟨0, z.1, fun _ => ?_, fun q => absurd rfl q⟩⟩, fun c => ⟨M0.W.kd, _, o_thr1 hl hm M0.W 2, fun o h1 z => Or.inl ⟨1, z.1, fun q => absurd q (by decide), fun _ => ?_⟩⟩⟩
    · rw [z.2, if_neg c]
      rcases holdF_spec A (nI k) with ⟨q, -⟩ | ⟨u, hu, q, -, -⟩
      · exact absurd q c
      · have u10 := F.1.T10 hu
        refine ⟨M0.W.kd, _, o_heldBy hl M0.W F _, ?_⟩
        rw [q, nI_clamp (by omega)]
        refine ⟨M0.W.kd, _, o_isPutBy hl hm M0 u10, fun o2 h2 y => Or.inl ⟨_, y.1, ?_⟩⟩
        exact MA_of ⟨rfl, y.2⟩
    · rw [z.2, if_pos c]; exact MA_no M 2
theorem p_wake (hl : G.1.stackTraces = false) (hm : G.n0 ≤ m) (M : MV G h m A T ln im pa r) (F : Wf A) (t : Int32) : EvM G m_Mo_wake [.ref m, .int t] h (MA G h m A T ln im pa r (aWake T A t)) := by
  have M0 := M.thr 0
  unfold aWake
  refine en_Mo_wake h _ m _ (e_Mo_wake_0 hl h _ m _ ⟨⟨hm, M.W.kd⟩, e_Mo_wake_5 hl _ _ m _ ?_⟩)
  rcases thing_cases F.1 t with e | ⟨e, k, hk, rfl⟩
  · rw [if_pos e]
    exact ⟨M0.W.kd, 1, o_noTe hl M0.W F.1 e, M0.W.kd, _, o_thr1 hl hm M0.W 1, fun o h1 z => Or.inl ⟨1, z.1, fun q => absurd q (by decide), fun _ => by rw [z.2]; exact MA_no M 1⟩⟩
  · have k10 := F.1.T10 hk
    rw [if_neg (by rw [e]; decide), nI_clamp (by omega)]
    refine ⟨M0.W.kd, 0, o_noTe hl M0.W F.1 e, M0.W.kd, _, o_thr0 hl 1, fun o h1 z => Or.inl ⟨0, z.1, fun _ => ?_, fun q => absurd rfl q⟩⟩
    rw [z.2]
    refine ⟨M0.W.kd, _, o_ofThing hl M0.W k10 (f := 2) (by decide), M0.W.kd, _, o_free hl M0.W k10, fun c => ⟨M0.W.kd, _, o_thr1 hl hm M0.W 2, fun o h1 z => Or.inl ⟨1, z.1, fun q => absurd q (by decide), fun _ => ?_⟩⟩, fun c => ?_⟩
    · rw [z.2, if_neg (fun q => ite0 c q.1)]; exact MA_no M 2
    · have fr := ite1 c
      rcases (F.2.2.2.1 k hk).1 with ow | ⟨q, hq, ow, lv⟩
      · exact absurd ow fr.2
      · have q7 := F.1.P7 hq
        have ow' : A (6 + 2) k = nI q := ow
        rw [ow']
        rw [ow] at fr
        rw [nI_clamp (show q < 2 ^ 31 by omega)]
        refine ⟨M0.W.kd, _, o_heldBy hl M0.W F _, fun d => ⟨M0.W.kd, _, o_thr1 hl hm M0.W 2, fun o h1 z => Or.inl ⟨1, z.1, fun q => absurd q (by decide), fun _ => ?_⟩⟩, fun d => ⟨M0.W.kd, _, o_canHold hl M0.W F M0.L hq hk, fun o3 h3 w => Or.inl ⟨_, w.1, fun f => ?_, fun f => ?_⟩⟩⟩
        · rw [z.2, if_neg (fun q => d q.2.1)]; exact MA_no M 2
        · have M3 := M0.kw w.2.1 w.2.2
          have F3 : Fs (mA m) h h3 := mA_0.tr (mW_A w.2.2)
          have e3 : h3.2.1 m 0 = .int 0 := by rw [mW_0 w.2.2]; exact hs_eq
          have ng : ¬ gripF T A q < A 7 k := fun g => by rw [if_pos g] at f; exact absurd rfl f
          refine ⟨M3.W.kd, _, o_thr0 hl 2, fun o h1 z => Or.inl ⟨0, z.1, fun _ => ?_, fun q => absurd rfl q⟩⟩
          rw [z.2, if_pos ⟨fr, d, ng⟩]
          refine ⟨M3.W.kd, _, o_remembers hl hm M3, fun o2 h2 y => Or.inl ?_⟩
          have M2 := y.2.1
          exact ⟨y.1, M2.W.kd, _, o_lies hl hm M2.W k10 1 (nI q) (fun q => absurd q (by decide)), fun o4 h4 w => Or.inl ⟨w.1, MA_of' F3 e3 (mapost_of y w.2.1 w.2.2 _)⟩⟩
        · have M3 := M0.kw w.2.1 w.2.2
          have F3 : Fs (mA m) h h3 := mA_0.tr (mW_A w.2.2)
          refine ⟨M3.W.kd, _, o_thr1 hl hm M3.W 2, fun o h1 z => Or.inl ⟨1, z.1, fun q => absurd q (by decide), fun _ => ?_⟩⟩
          rw [z.2, if_neg (fun g => by rw [if_neg g.2.2] at f; exact absurd f (by decide))]
          exact MA_no' M3 F3 2
theorem p_give (hl : G.1.stackTraces = false) (hm : G.n0 ≤ m) (M : MV G h m A T ln im pa r) (F : Wf A) (t p : Int32) : EvM G m_Mo_give [.ref m, .int t, .int p] h (MA G h m A T ln im pa r (aGive A t p)) := by
  have M0 := M.thr 0
  by_cases bad : noF (A 0 0) p = 1 ∨ noF (A 0 1) t = 1
  · have : aGive A t p = no_ 1 := by
      unfold aGive
      by_cases e : noF (A 0 1) t = 1
      · rw [if_pos e]
      · rw [if_neg e, if_pos (bad.resolve_right e)]
    rw [this]
    refine en_Mo_give h _ m _ _ (e_Mo_give_0 hl h _ m _ _ ⟨M.W.kd, _, p_noBoth1 hl hm M.W F bad, fun o h1 z => Or.inl ⟨1, z.1, fun _ => ?_, fun q => absurd q (by decide)⟩⟩)
    rw [z.2]; exact MA_no M 1
  · unfold aGive
    rcases thing_cases F.1 t with e | ⟨e, k, hk, rfl⟩
    · exact absurd (Or.inr e) bad
    · rcases person_cases F.1 p with e2 | ⟨e2, j, hj, rfl⟩
      · exact absurd (Or.inl e2) bad
      · have k10 := F.1.T10 hk
        have j7 := F.1.P7 hj
        rw [if_neg (by rw [e]; decide), if_neg (by rw [e2]; decide), nI_clamp (show k < 2 ^ 31 by omega), nI_clamp (show j < 2 ^ 31 by omega)]
        refine en_Mo_give h _ m _ _ (e_Mo_give_0 hl h _ m _ _ ⟨M.W.kd, _, p_noBoth0 hl hm M.W F e2 e, fun o h1 z => Or.inl ⟨0, z.1, fun q => absurd rfl q, fun _ => ?_⟩⟩)
        rw [z.2]
        refine ⟨M0.W.kd, _, o_free hl M0.W k10, fun c => ⟨M0.W.kd, _, o_thr1 hl hm M0.W 2, fun o h1 z => Or.inl ⟨1, z.1, fun q => absurd q (by decide), fun _ => ?_⟩⟩, fun c => ⟨M0.W.kd, _, o_lives hl M0.W j7, fun d => ⟨M0.W.kd, _, o_thr1 hl hm M0.W 2, fun o h1 z => Or.inl ⟨1, z.1, fun q => absurd q (by decide), fun _ => ?_⟩⟩, fun d => ⟨M0.W.kd, _, o_ofThing hl M0.W k10 (f := 2) (by decide), fun f => ⟨M0.W.kd, _, o_thr0 hl 2, fun o h1 z => Or.inl ⟨0, z.1, fun _ => ?_, fun q => absurd rfl q⟩⟩, fun f => ⟨M0.W.kd, _, o_thr1 hl hm M0.W 2, fun o h1 z => Or.inl ⟨1, z.1, fun q => absurd q (by decide), fun _ => ?_⟩⟩⟩⟩⟩
        · rw [z.2, if_neg (fun q => ite0 c q.1.1)]; exact MA_no M 2
        · rw [z.2, if_neg (fun q => ite0 d q.1.2)]; exact MA_no M 2
        · rw [z.2, if_pos ⟨⟨ite1 c, ite1 d⟩, f⟩]
          exact ⟨_, o_tAt hl k 2, M0.W.kd, _, o_isNow hl hm M0 (k := 6 + 2) (j := k) (dT (by omega) k10) (adT (by omega)) (by omega) (nI j), fun o2 h2 y => Or.inl ⟨_, y.1, MA_of ⟨rfl, y.2⟩⟩⟩
        · rw [z.2, if_neg (fun q => q.2 f)]; exact MA_no M 2
theorem p_tie (hl : G.1.stackTraces = false) (hm : G.n0 ≤ m) (M : MV G h m A T ln im pa r) (F : Wf A) (p b : Int32) : EvM G m_Mo_tie [.ref m, .int p, .int b] h (MA G h m A T ln im pa r (aTie A p b)) := by
  have M0 := M.thr 0
  unfold aTie
  refine en_Mo_tie h _ m _ _ (e_Mo_tie_0 hl h _ m _ _ ⟨⟨hm, M.W.kd⟩, e_Mo_tie_5 hl _ _ m _ _ ?_⟩)
  rcases person_cases F.1 p with e | ⟨e, k, hk, rfl⟩
  · rw [if_pos e]
    exact ⟨fun _ => ⟨M0.W.kd, 1, o_noPe hl M0.W F.1 e, M0.W.kd, _, o_thr1 hl hm M0.W 1, fun o h1 z => Or.inl ⟨1, z.1, fun _ => by rw [z.2]; exact MA_no M 1, fun q => absurd q (by decide)⟩⟩, fun _ => ⟨M0.W.kd, 1, o_noPe hl M0.W F.1 e, M0.W.kd, _, o_thr1 hl hm M0.W 1, fun o h1 z => Or.inl ⟨1, z.1, fun _ => by rw [z.2]; exact MA_no M 1, fun q => absurd q (by decide)⟩⟩⟩
  · have k7 := F.1.P7 hk
    rw [if_neg (by rw [e]; decide), nI_clamp (by omega)]
    refine ⟨fun c => ⟨M0.W.kd, 0, o_noPe hl M0.W F.1 e, M0.W.kd, _, o_thr0 hl 1, fun o h1 z => Or.inl ⟨0, z.1, fun q => absurd rfl q, fun _ => ?_⟩⟩, fun c => ⟨M0.W.kd, 0, o_noPe hl M0.W F.1 e, M0.W.kd, _, o_thr0 hl 1, fun o h1 z => Or.inl ⟨0, z.1, fun q => absurd rfl q, fun _ => ?_⟩⟩⟩
    · have e0 : b01 b = 0 := by unfold b01; rw [if_pos c]
      rw [z.2, e0]
      refine ⟨_, o_pAt hl k 3, M0.W.kd, _, o_isNow hl hm M0 (k := 1 + 3) (j := k) (dP (by omega) k7) (adP (by omega)) (by omega) 0, fun o2 h2 y => Or.inl ⟨_, y.1, fun d => ?_, fun d => ?_⟩⟩
      · rw [if_pos (show A 4 k = 0 from d)]; exact MA_of ⟨rfl, y.2⟩
      · rw [if_neg (show ¬ A 4 k = 0 from d)]; exact MA_of ⟨rfl, y.2⟩
    · have e0 : b01 b = 1 := by unfold b01; rw [if_neg c]
      rw [z.2, e0]
      refine ⟨_, o_pAt hl k 3, M0.W.kd, _, o_isNow hl hm M0 (k := 1 + 3) (j := k) (dP (by omega) k7) (adP (by omega)) (by omega) 1, fun o2 h2 y => Or.inl ⟨_, y.1, fun d => ?_, fun d => ?_⟩⟩
      · rw [if_pos (show A 4 k = 1 from d)]; exact MA_of ⟨rfl, y.2⟩
      · rw [if_neg (show ¬ A 4 k = 1 from d)]; exact MA_of ⟨rfl, y.2⟩
theorem p_heir (hl : G.1.stackTraces = false) (hm : G.n0 ≤ m) (M : MV G h m A T ln im pa r) (F : Wf A) (p q : Int32) : EvM G m_Mo_heir [.ref m, .int p, .int q] h (MA G h m A T ln im pa r (aHeir A p q)) := by
  have M0 := M.thr 0
  unfold aHeir
  refine en_Mo_heir h _ m _ _ (e_Mo_heir_0 hl h _ m _ _ ⟨⟨hm, M.W.kd⟩, e_Mo_heir_5 hl _ _ m _ _ ?_⟩)
  rcases person_cases F.1 p with e | ⟨e, k, hk, rfl⟩
  · rw [if_pos e]
    exact ⟨M0.W.kd, 1, o_noPe hl M0.W F.1 e, fun _ => ⟨M0.W.kd, _, o_thr1 hl hm M0.W 1, fun o h1 z => Or.inl ⟨1, z.1, fun _ => by rw [z.2]; exact MA_no M 1, fun q => absurd q (by decide)⟩⟩, fun q => absurd q (by decide)⟩
  · have k7 := F.1.P7 hk
    rw [if_neg (by rw [e]; decide)]
    have go : ∀ o2 h2, mapost G (hset h m 0 (.int 0)) m A T ln im pa r (A (1 + 2) k) (up A (1 + 2) k q) o2 h2 → MA G h m A T ln im pa r (yes_ (A 3 (nI k).toNatClampNeg) (up A 3 (nI k).toNatClampNeg q)) (.inl (some (.int (A (1 + 2) k)))) h2 := fun o2 h2 y => by
      rw [nI_clamp (by omega)]; exact MA_of ⟨rfl, y.2⟩
    refine ⟨M0.W.kd, 0, o_noPe hl M0.W F.1 e, fun q => absurd rfl q, fun _ => ⟨fun c => ⟨M0.W.kd, _, o_thr0 hl 1, fun o h1 z => Or.inl ⟨0, z.1, fun q => absurd rfl q, fun _ => ?_⟩⟩, fun c => ?_⟩⟩
    · rw [z.2, if_neg (fun q => q.1 c)]
      refine ⟨fun d => ⟨M0.W.kd, _, o_thr0 hl 2, fun o h1 z => Or.inl ⟨0, z.1, fun _ => ?_, fun q => absurd rfl q⟩⟩, fun d => ⟨M0.W.kd, _, o_thr1 hl hm M0.W 2, fun o h1 z => Or.inl ⟨1, z.1, fun q => absurd q (by decide), fun _ => ?_⟩⟩⟩
      · rw [z.2, if_neg d]
        exact ⟨_, o_pAt hl k 2, M0.W.kd, _, o_isNow hl hm M0 (k := 1 + 2) (j := k) (dP (by omega) k7) (adP (by omega)) (by omega) q, fun o2 h2 y => Or.inl ⟨_, y.1, go o2 h2 y⟩⟩
      · rw [z.2, if_pos d]; exact MA_no M 2
    · rcases person_cases F.1 q with e2 | ⟨e2, -⟩
      · rw [if_pos ⟨c, e2⟩]
        exact ⟨M0.W.kd, 1, o_noPe hl M0.W F.1 e2, fun q => absurd q (by decide), fun _ => ⟨M0.W.kd, _, o_thr1 hl hm M0.W 1, fun o h1 z => Or.inl ⟨1, z.1, fun _ => by rw [z.2]; exact MA_no M 1, fun q => absurd q (by decide)⟩⟩⟩
      · rw [if_neg (fun y => by rw [e2] at y; exact absurd y.2 (by decide))]
        refine ⟨M0.W.kd, 0, o_noPe hl M0.W F.1 e2, fun _ => ⟨M0.W.kd, _, o_thr0 hl 1, fun o h1 z => Or.inl ⟨0, z.1, fun q => absurd rfl q, fun _ => ?_⟩⟩, fun q => absurd rfl q⟩
        rw [z.2]
        refine ⟨fun d => ⟨M0.W.kd, _, o_thr0 hl 2, fun o h1 z => Or.inl ⟨0, z.1, fun _ => ?_, fun q => absurd rfl q⟩⟩, fun d => ⟨M0.W.kd, _, o_thr1 hl hm M0.W 2, fun o h1 z => Or.inl ⟨1, z.1, fun q => absurd q (by decide), fun _ => ?_⟩⟩⟩
        · rw [z.2, if_neg d]
          exact ⟨_, o_pAt hl k 2, M0.W.kd, _, o_isNow hl hm M0 (k := 1 + 2) (j := k) (dP (by omega) k7) (adP (by omega)) (by omega) q, fun o2 h2 y => Or.inl ⟨_, y.1, go o2 h2 y⟩⟩
        · rw [z.2, if_pos d]; exact MA_no M 2
end MACT
