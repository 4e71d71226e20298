/-! ===== the reference: nights ahead, brought back ===== -/
def KT (m : Nat) (h g : Hp) : Prop := Fs (fun a _ => a = m + 1 ∨ a = m + 4 ∨ a = m + 8) h g ∧ (∀ j, g.2.1 (m + 1) j = h.2.1 (m + 1) j) ∧ ∀ j, j < 394 → g.2.1 (m + 4) j = h.2.1 (m + 1) j
section MACT4
variable {G : Gx} {h h' g : Hp} {m : Nat} {A A' : Vs} {T : Tt} {ln : Int32} {im : Option Sv} {pa : Nat → Vs} {r : Nat}
theorem KT.W (K : KT m h g) (W : WldAt h m A) : WldAt g m A := W.keep (fun a _ _ => by rw [K.1.1]) (fun j _ => K.1.2.2 m j (by omega)) (fun j _ => K.2.1 j)
theorem KT.M (K : KT m h g) (M : MV G h m A T ln im pa r) : MV G g m A T ln im pa r := by
  obtain ⟨W0, L, I, ⟨r1, r2⟩, c5, sn⟩ := M
  have k : ∀ a j, ¬ (a = m + 1 ∨ a = m + 4 ∨ a = m + 8) → g.2.1 a j = h.2.1 a j := K.1.2.2
  refine ⟨K.W W0, L.congr (fun j _ => K.2.1 j), I.keep (k _ _ (by omega)) (fun j _ => k _ _ (by omega)), ⟨r1, by rw [k _ _ (by omega)]; exact r2⟩, fun j hj => by rw [k _ _ (by omega)]; exact c5 j hj, fun i hi => ?_⟩
  rw [K.2.1]
  exact (sn i hi).keep (fun j _ => k _ _ (by omega))
theorem KT.fr (K : KT m h g) : Fs (mA m) h g := K.1.mono (fun a j z => by unfold mA; omega)
theorem KT.back (K : KT m h g) {g2 : Hp} (F : Fs (mW m) g g2) : KT m h (cpO g2 (m + 1) 0 (m + 4) 0 394) := by
  have e4 : ∀ j, g2.2.1 (m + 4) j = g.2.1 (m + 4) j := fun j => F.2.2 _ _ (by unfold mW; omega)
  refine ⟨(K.1.tr (F.mono (fun a j z => by unfold mW at z; omega))).tr (cpO_Fs (fun j _ _ => Or.inl rfl)), fun j => ?_, fun j hj => ?_⟩
  · by_cases z : j < 394
    · have := cpO_in (h := g2) (a := m + 1) (da := 0) (b := m + 4) (sb := 0) (t := 394) z
      rw [Nat.zero_add] at this
      rw [this, e4, K.2.2 j z]
    · rw [cpO_out (by omega), F.2.2 (m + 1) j (by unfold mW; omega), K.2.1]
  · rw [cpO_ne (by omega), e4, K.2.2 j hj]
theorem o_keeps (hl : G.1.stackTraces = false) (hm : G.n0 ≤ m) (W : WldAt h m A) : EvM G m_Mo_keepsAll [.ref m] h (fun o h' => o = .inl none ∧ KT m h h') := by
  obtain ⟨w, Wa, -⟩ := W.wat
  refine en_Mo_keepsAll h _ m (e_Mo_keepsAll_0 hl h _ m ?_)
  have k : ∀ t a j, a ≠ m + 4 → (cpO h (m + 4) 0 (m + 1) 0 t).2.1 a j = h.2.1 a j := fun t a j n1 => by rw [cpO_ne n1]
  have kd : ∀ t, ((cpO h (m + 4) 0 (m + 1) 0 t).1 m).1 = 11 := fun t => W.kd
  have step : Ev G m_Mo_keepsAll 2 [.ref m, .int (nI 0)] [] (cpO h (m + 4) 0 (m + 1) 0 0) 0 0 (fun o h' => o = .inl none ∧ KT m h h') := by
    refine for_up (Q := fun t => Ev G m_Mo_keepsAll 2 [.ref m, .int (nI t)] [] (cpO h (m + 4) 0 (m + 1) 0 t) 0 0 _) (n := 394) ?_ (fun t ht ih => ?_) 0 (Nat.zero_le _)
    · refine e_Mo_keepsAll_2 hl _ _ m _ ⟨fun _ => ⟨rfl, cpO_Fs (fun j _ _ => Or.inr (Or.inl rfl)), fun j => k _ _ _ (by omega), fun j hj => ?_⟩, fun c => absurd (by decide) c⟩
      have := cpO_in (h := h) (a := m + 4) (da := 0) (b := m + 1) (sb := 0) (t := 394) hj
      rw [Nat.zero_add] at this
      exact this
    · refine e_Mo_keepsAll_2 hl _ _ m _ ⟨fun c => absurd c (nI_ge ht (by decide)), fun _ => ⟨m + 4, ⟨kd t, by rw [k _ _ _ (by omega)]; exact W.1.1.2.2.2.2.1⟩, m + 1, ⟨kd t, by rw [k _ _ _ (by omega)]; exact W.r1.2⟩, w t, aI_of (n := 2092) W.1.2.1 (by omega) (by decide) (by rw [k _ _ _ (by omega)]; exact Wa.2 t (by omega)), aW_of (n := 394) (by omega) W.1.2.2.2.2.1 (by omega) (by decide), ?_⟩⟩
      rw [nI_clamp (by omega)]
      refine e_Mo_keepsAll_21 hl _ _ m _ ?_
      rw [nI_1]
      have es := cpO_s (h := h) (a := m + 4) (da := 0) (b := m + 1) (sb := 0) (t := t)
      rw [show h.2.1 (m + 1) (0 + t) = .int (w t) by rw [Nat.zero_add]; exact Wa.2 t (by omega), Nat.zero_add] at es
      rw [es]; exact ih
  rw [cpO_0] at step
  exact step
theorem o_brings (hl : G.1.stackTraces = false) (hm : G.n0 ≤ m) (W : WldAt h m A) (hw : ∀ j, j < 394 → ∃ y, h.2.1 (m + 4) j = .int y) : EvM G m_Mo_bringsBack [.ref m] h (fun o h' => o = .inl none ∧ h' = cpO h (m + 1) 0 (m + 4) 0 394) := by
  refine en_Mo_bringsBack h _ m (e_Mo_bringsBack_0 hl h _ m ?_)
  have k : ∀ t a j, a ≠ m + 1 → (cpO h (m + 1) 0 (m + 4) 0 t).2.1 a j = h.2.1 a j := fun t a j n1 => by rw [cpO_ne n1]
  have kd : ∀ t, ((cpO h (m + 1) 0 (m + 4) 0 t).1 m).1 = 11 := fun t => W.kd
  have step : Ev G m_Mo_bringsBack 2 [.ref m, .int (nI 0)] [] (cpO h (m + 1) 0 (m + 4) 0 0) 0 0 (fun o h' => o = .inl none ∧ h' = cpO h (m + 1) 0 (m + 4) 0 394) := by
    refine for_up (Q := fun t => Ev G m_Mo_bringsBack 2 [.ref m, .int (nI t)] [] (cpO h (m + 1) 0 (m + 4) 0 t) 0 0 _) (n := 394) ?_ (fun t ht ih => ?_) 0 (Nat.zero_le _)
    · exact e_Mo_bringsBack_2 hl _ _ m _ ⟨fun _ => ⟨rfl, rfl⟩, fun c => absurd (by decide) c⟩
    · obtain ⟨y, hy⟩ := hw t ht
      refine e_Mo_bringsBack_2 hl _ _ m _ ⟨fun c => absurd c (nI_ge ht (by decide)), fun _ => ⟨m + 1, ⟨kd t, by rw [k _ _ _ (by omega)]; exact W.r1.2⟩, m + 4, ⟨kd t, by rw [k _ _ _ (by omega)]; exact W.1.1.2.2.2.2.1⟩, y, aI_of (n := 394) W.1.2.2.2.2.1 (by omega) (by decide) (by rw [k _ _ _ (by omega)]; exact hy), aW_of (n := 2092) (by omega) W.1.2.1 (by omega) (by decide), ?_⟩⟩
      rw [nI_clamp (by omega)]
      refine e_Mo_bringsBack_21 hl _ _ m _ ?_
      rw [nI_1]
      have es := cpO_s (h := h) (a := m + 1) (da := 0) (b := m + 4) (sb := 0) (t := t)
      rw [show h.2.1 (m + 4) (0 + t) = .int y by rw [Nat.zero_add]; exact hy, Nat.zero_add] at es
      rw [es]; exact ih
  rw [cpO_0] at step
  exact step
theorem KT.in4 (K : KT m h g) (W : WldAt h m A) {g2 : Hp} (F : Fs (mW m) g g2) : ∀ j, j < 394 → ∃ y, g2.2.1 (m + 4) j = .int y := fun j hj => by
  obtain ⟨w, Wa, -⟩ := W.wat
  exact ⟨w j, by rw [F.2.2 _ _ (by unfold mW; omega), K.2.2 j hj]; exact Wa.2 j (by omega)⟩
theorem MA_rd {g : Hp} {v : Int32} (M : MV G g m A T ln im pa r) (F : Fs (mA m) h g) (e : g.2.1 m 0 = .int 0) : MA G h m A T ln im pa r ((0, v), none) (.inl (some (.int v))) g := ⟨rfl, e, F, M⟩
theorem KT.m0 (K : KT m (hset h m 0 (.int 0)) g) : g.2.1 m 0 = .int 0 := by rw [K.1.2.2 m 0 (by omega)]; exact hs_eq
theorem p_ahead (hl : G.1.stackTraces = false) (hm : G.n0 ≤ m) (M : MV G h m A T ln im pa r) (F : Wf A) (p n : Int32) : EvM G m_Mo_ahead [.ref m, .int p, .int n] h (MA G h m A T ln im pa r (anP A p (anN (nI 61) n 2 (0, holdF (calmF T n.toNatClampNeg A) p)), none)) := by
  have M0 := M.thr 0
  refine en_Mo_ahead h _ m _ _ (e_Mo_ahead_0 hl h _ m _ _ ⟨⟨hm, M.W.kd⟩, e_Mo_ahead_5 hl _ _ m _ _ ?_⟩)
  rcases person_cases F.1 p with e | ⟨e, k, hk, rfl⟩
  · rw [anP1 e]
    exact ⟨M0.W.kd, 1, o_noPe hl M0.W F.1 e, M0.W.kd, _, o_thr1 hl hm M0.W 1, fun o h1 z => Or.inl ⟨1, z.1, fun _ => by rw [z.2]; exact MA_no M 1, fun q => absurd q (by decide)⟩⟩
  · rw [anP0 e]
    refine ⟨M0.W.kd, 0, o_noPe hl M0.W F.1 e, M0.W.kd, _, o_thr0 hl 1, fun o h1 z => Or.inl ⟨0, z.1, fun q => absurd rfl q, fun _ => ?_⟩⟩
    rw [z.2]
    rcases num_cases 61 (by decide) n with ⟨e2, -⟩ | ⟨e2, -, -, j, hj, rfl⟩
    · rw [anN1 e2]
      exact ⟨1, o_tn hl e2, M0.W.kd, _, o_thr1 hl hm M0.W 2, fun o h1 z => Or.inl ⟨1, z.1, fun q => absurd q (by decide), fun _ => by rw [z.2]; exact MA_no M 2⟩⟩
    · rw [anN0 e2, nI_clamp (by omega)]
      refine ⟨0, o_tn hl e2, M0.W.kd, _, o_thr0 hl 2, fun o h1 z => Or.inl ⟨0, z.1, fun _ => ?_, fun q => absurd rfl q⟩⟩
      rw [z.2]
      refine ⟨M0.W.kd, _, o_keeps hl hm M0.W, fun o1 h1 y => Or.inl ⟨y.1, ?_⟩⟩
      have K := y.2
      have M1 := K.M M0
      refine ⟨M1.W.kd, _, o_goesCalm hl hm M1.W F M1.L (by omega : j < 2 ^ 31), fun o2 h2 w => Or.inl ⟨_, w.1, w.2.1.kd, _, o_heldBy hl w.2.1 (F.calm T j).1 _, w.2.1.kd, _, o_brings hl hm w.2.1 (K.in4 M0.W w.2.2), fun o3 h3 x => Or.inl ⟨x.1, ?_⟩⟩⟩
      rw [x.2]
      have K3 := K.back w.2.2
      exact MA_rd (K3.M M0) (mA_0.tr K3.fr) K3.m0
theorem p_trial (hl : G.1.stackTraces = false) (hm : G.n0 ≤ m) (M : MV G h m A T ln im pa r) (F : Wf A) (n b : Int32) : EvM G m_Mo_trial [.ref m, .int n, .int b] h (MA G h m A T ln im pa r (anN (nI 61) n 1 (0, if b = 0 then flagF (passF T n.toNatClampNeg A) 5 else wlthF (passF T n.toNatClampNeg A)), none)) := by
  have M0 := M.thr 0
  refine en_Mo_trial h _ m _ _ (e_Mo_trial_0 hl h _ m _ _ ⟨⟨hm, M.W.kd⟩, e_Mo_trial_5 hl _ _ m _ _ ?_⟩)
  rcases num_cases 61 (by decide) n with ⟨e2, -⟩ | ⟨e2, -, -, j, hj, rfl⟩
  · rw [anN1 e2]
    exact ⟨1, o_tn hl e2, M0.W.kd, _, o_thr1 hl hm M0.W 1, fun o h1 z => Or.inl ⟨1, z.1, fun q => absurd q (by decide), fun _ => by rw [z.2]; exact MA_no M 1⟩⟩
  · rw [anN0 e2, nI_clamp (by omega)]
    refine ⟨0, o_tn hl e2, M0.W.kd, _, o_thr0 hl 1, fun o h1 z => Or.inl ⟨0, z.1, fun _ => ?_, fun q => absurd rfl q⟩⟩
    rw [z.2]
    refine ⟨M0.W.kd, _, o_keeps hl hm M0.W, fun o1 h1 y => Or.inl ⟨y.1, ?_⟩⟩
    have K := y.2
    have M1 := K.M M0
    refine ⟨M1.W.kd, _, o_goesOn hl hm M1.W F M1.L (by omega : j < 2 ^ 31), fun o2 h2 w => Or.inl ⟨_, w.1, fun d => ⟨w.2.1.kd, _, o_allLiving hl w.2.1 (F.pass T j).1.1, w.2.1.kd, _, o_brings hl hm w.2.1 (K.in4 M0.W w.2.2), fun o3 h3 x => Or.inl ⟨x.1, ?_⟩⟩, fun d => ⟨w.2.1.kd, _, o_ownedBy hl w.2.1 (F.pass T j).1.1 _, w.2.1.kd, _, o_worthOf hl w.2.1 (F.pass T j).1.1 _, w.2.1.kd, _, o_brings hl hm w.2.1 (K.in4 M0.W w.2.2), fun o3 h3 x => Or.inl ⟨x.1, ?_⟩⟩⟩⟩
    · rw [x.2, if_pos d]
      have K3 := K.back w.2.2
      exact MA_rd (K3.M M0) (mA_0.tr K3.fr) K3.m0
    · rw [x.2, if_neg d]
      have K3 := K.back w.2.2
      exact MA_rd (K3.M M0) (mA_0.tr K3.fr) K3.m0
theorem spnW_pos (F : Wf A) {n i : Nat} : ∃ k, k ≤ 990 ∧ spnW T A n i = nI k := worth_rg ((F.up0 (j := 5) (by omega) (nI (i + 1))).pass T n).1 _
theorem spn_rg (F : Wf A) {n : Nat} {b : Int32} : ∀ t, (t = 0 ∧ lp (spnS T A n b) t (-1) = -1) ∨ ∃ k, k ≤ 990 ∧ lp (spnS T A n b) t (-1) = nI k
  | 0 => Or.inl ⟨rfl, rfl⟩
  | t + 1 => by
    refine Or.inr ?_
    show ∃ k, k ≤ 990 ∧ spnS T A n b t (lp (spnS T A n b) t (-1)) = nI k
    obtain ⟨w, hw, ew⟩ := spnW_pos (T := T) F (n := n) (i := t)
    rcases spn_rg F (n := n) (b := b) t with ⟨-, e⟩ | ⟨k, hk, e⟩
    · rw [e]; unfold spnS; rw [if_pos rfl]; exact ⟨w, hw, ew⟩
    · rw [e]; unfold spnS; rw [ew]
      repeat' split
      all_goals first | exact ⟨w, hw, rfl⟩ | exact ⟨k, hk, rfl⟩
theorem p_span (hl : G.1.stackTraces = false) (hm : G.n0 ≤ m) (M : MV G h m A T ln im pa r) (F : Wf A) (n b : Int32) : EvM G m_Mo_span [.ref m, .int n, .int b] h (MA G h m A T ln im pa r (anN (nI 61) n 1 (0, spnF T A n.toNatClampNeg b), none)) := by
  have M0 := M.thr 0
  refine en_Mo_span h _ m _ _ (e_Mo_span_0 hl h _ m _ _ ⟨⟨hm, M.W.kd⟩, e_Mo_span_5 hl _ _ m _ _ ?_⟩)
  rcases num_cases 61 (by decide) n with ⟨e2, -⟩ | ⟨e2, -, -, j, hj, rfl⟩
  · rw [anN1 e2]
    exact ⟨1, o_tn hl e2, M0.W.kd, _, o_thr1 hl hm M0.W 1, fun o h1 z => Or.inl ⟨1, z.1, fun q => absurd q (by decide), fun _ => by rw [z.2]; exact MA_no M 1⟩⟩
  · rw [anN0 e2, nI_clamp (by omega)]
    refine ⟨0, o_tn hl e2, M0.W.kd, _, o_thr0 hl 1, fun o h1 z => Or.inl ⟨0, z.1, fun _ => ?_, fun q => absurd rfl q⟩⟩
    rw [z.2]
    refine ⟨M0.W.kd, _, o_keeps hl hm M0.W, fun o1 h1 y => Or.inl ⟨y.1, ?_⟩⟩
    refine for_up (Q := fun t => ∀ g, KT m (hset h m 0 (.int 0)) g → Ev G m_Mo_span 28 [.ref m, .int (nI j), .int b, .int (lp (spnS T A j b) t (-1)), .int (nI (t + 1)), un] [] g 0 0 (MA G h m A T ln im pa r ((0, spnF T A j b), none))) (n := 6) (fun g K => ?_) (fun t ht ih g K => ?_) 0 (Nat.zero_le _) h1 y.2
    · exact e_Mo_span_28 hl g _ m _ _ _ _ ⟨fun _ => MA_rd (K.M M0) (mA_0.tr K.fr) K.m0, fun c => absurd (by decide) c⟩
    · have rg := spn_rg (T := T) F (n := j) (b := b) t
      simp only [lp] at ih
      generalize lp (spnS T A j b) t (-1) = f at *
      have M1 := K.M M0
      have W2 := M1.W.set (k := 0) (j := 5) (n := 8) (d0 (by decide)) rfl (nI (t + 1))
      have F2 : Fs (mW m) g (hset g (m + 1) 8 (.int (nI (t + 1)))) := Fs.rf.set (mW_at (by decide) (by decide))
      have M2 := M1.kw W2 F2
      have Q2 := F.up0 (j := 5) (by omega) (nI (t + 1))
      have Q3 := (Q2.pass T j).1
      refine e_Mo_span_28 hl g _ m _ _ _ _ ⟨fun c => absurd c (nI_nlt (by omega : t + 1 ≤ 6) (by decide)), fun _ => ⟨_, M1.W.r1, M1.W.wr hm (n := 8) (by decide), ?_⟩⟩
      refine e_Mo_span_44 hl _ _ m _ _ _ _ ⟨M2.W.kd, _, o_goesOn hl hm M2.W Q2 M2.L (by omega : j < 2 ^ 31), fun o3 h3 w => Or.inl ⟨_, w.1, w.2.1.kd, _, o_ownedBy hl w.2.1 Q3.1 _, w.2.1.kd, spnW T A j t, o_worthOf hl w.2.1 Q3.1 _, w.2.1.kd, _, o_brings hl hm w.2.1 (K.in4 M0.W (F2.tr w.2.2)), fun o4 h4 x => Or.inl ⟨x.1, ?_⟩⟩⟩
      rw [x.2]
      have K3 := K.back (F2.tr w.2.2)
      obtain ⟨wv, hw, ew⟩ := spnW_pos (T := T) F (n := j) (i := t)
      have st : ∀ y, y = spnS T A j b t f → Ev G m_Mo_span 28 [.ref m, .int (nI j), .int b, .int y, .int (nI (t + 1) + 1), un] [] (cpO h3 (m + 1) 0 (m + 4) 0 394) 0 0 (MA G h m A T ln im pa r ((0, spnF T A j b), none)) := fun y e => by rw [e, nI_1]; exact ih _ K3
      rcases rg with ⟨-, rg⟩ | ⟨k, hk, rg⟩
      · refine ⟨fun c => absurd c (by rw [rg]; decide), fun _ => st _ ?_⟩
        unfold spnS; rw [if_pos rg]
      · have nf : ¬ f = -1 := by rw [rg]; exact m1_ne (by omega)
        refine ⟨fun _ => ⟨fun d => st _ ?_, fun d => st _ ?_⟩, fun c => absurd (by rw [rg]; exact nI_pos' (by omega)) c⟩
        · unfold spnS imin; rw [if_neg nf, if_pos d]
          by_cases q : f ≤ spnW T A j t
          · rw [if_pos q, if_neg (Int32.not_lt.mpr q)]
          · rw [if_neg q, if_pos (Int32.not_le.mp q)]
        · unfold spnS imax; rw [if_neg nf, if_neg d]
          by_cases q : spnW T A j t ≤ f
          · rw [if_pos q, if_neg (Int32.not_lt.mpr q)]
          · rw [if_neg q, if_pos (Int32.not_le.mp q)]
end MACT4
