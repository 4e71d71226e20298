/-! ===== answers: the reference ===== -/
section PUB2
variable {G : Gx} {h : Hp} {m : Nat} {A : Vs} {T : Tt}
theorem in_no4 {w : Int32} (n : Nat) (hn : n + 1 < 2 ^ 31) : (noF (nI (n + 1)) w = 1 → (if w < 0 then (0 : Int32) else if nI n < w then 0 else 1) = 0) ∧ (noF (nI (n + 1)) w = 0 → (if w < 0 then (0 : Int32) else if nI n < w then 0 else 1) = 1) := by
  have k := in_no (n := n + 1) (x := w) hn
  rw [nI_pred] at k
  have v : (if w < 0 then (0 : Int32) else if nI n < w then 0 else 1) = 0 ∨ (if w < 0 then (0 : Int32) else if nI n < w then 0 else 1) = 1 := by
    repeat' split
    all_goals first | exact Or.inl rfl | exact Or.inr rfl
  refine ⟨fun e => ?_, fun e => ?_⟩
  · rcases v with q | q
    · exact q
    · have := k.1 (by rw [q]; decide); rw [e] at this; exact absurd this (by decide)
  · rcases v with q | q
    · have := k.2 q; rw [e] at this; exact absurd this (by decide)
    · exact q
theorem o_noPe (hl : G.1.stackTraces = false) (W : WldAt h m A) (B : Bd A) {p c : Int32} (e : noF (A 0 0) p = c) : EvI G m_Mo_noPerson [.ref m, .int p] h c := by subst e; exact o_noPerson hl W B p
theorem o_noTe (hl : G.1.stackTraces = false) (W : WldAt h m A) (B : Bd A) {p c : Int32} (e : noF (A 0 1) p = c) : EvI G m_Mo_noThing [.ref m, .int p] h c := by subst e; exact o_noThing hl W B p
theorem o_ine (hl : G.1.stackTraces = false) {x a b c : Int32} (e : (if x < a then (0 : Int32) else if b < x then 0 else 1) = c) : EvI G m_Mo_in [.int x, .int a, .int b] h c := by subst e; exact o_in hl x a b
theorem p_living (hl : G.1.stackTraces = false) (hm : G.n0 ≤ m) (W : WldAt h m A) (F : Wf A) : EvM G m_Mo_living [.ref m] h (mans m h A (0, flagF A 5)) :=
  en_Mo_living h _ m (e_Mo_living_0 hl h _ m ⟨⟨hm, W.kd⟩, e_Mo_living_5 hl _ _ m ⟨(W.thr 0).kd, _, o_allLiving hl (W.thr 0) F.1, mans0 Fs.rf (W.thr 0) rfl⟩⟩)
theorem p_crown (hl : G.1.stackTraces = false) (hm : G.n0 ≤ m) (W : WldAt h m A) (F : Wf A) : EvM G m_Mo_crown [.ref m] h (mans m h A (0, ownF A (-1))) :=
  en_Mo_crown h _ m (e_Mo_crown_0 hl h _ m ⟨⟨hm, W.kd⟩, e_Mo_crown_5 hl _ _ m ⟨(W.thr 0).kd, _, o_ownedBy hl (W.thr 0) F.1 _, mans0 Fs.rf (W.thr 0) rfl⟩⟩)
theorem p_wealth (hl : G.1.stackTraces = false) (hm : G.n0 ≤ m) (W : WldAt h m A) (F : Wf A) : EvM G m_Mo_wealth [.ref m] h (mans m h A (0, worthF A (ownF A (-1)))) :=
  en_Mo_wealth h _ m (e_Mo_wealth_0 hl h _ m ⟨⟨hm, W.kd⟩, e_Mo_wealth_5 hl _ _ m ⟨(W.thr 0).kd, _, o_ownedBy hl (W.thr 0) F.1 _, (W.thr 0).kd, _, o_worthOf hl (W.thr 0) F.1 _, mans0 Fs.rf (W.thr 0) rfl⟩⟩)
theorem p_round (hl : G.1.stackTraces = false) (hm : G.n0 ≤ m) (W : WldAt h m A) (F : Wf A) : EvM G m_Mo_round [.ref m] h (mans m h A (0, rndF A)) := by
  have W0 := W.thr 0
  refine en_Mo_round h _ m (e_Mo_round_0 hl h _ m ⟨⟨hm, W.kd⟩, e_Mo_round_5 hl _ _ m ?_⟩)
  refine for_up (Q := fun t => Ev G m_Mo_round 9 [.ref m, .int (lp (fun p b => b ||| (lineF A p &&& sh1 p)) t 0), .int (nI t)] [] _ 0 0 _) (n := nP A) ?_ (fun t ht ih => ?_) 0 (Nat.zero_le _)
  · exact e_Mo_round_9 hl _ _ m _ _ ⟨W0.kd, _, o_people hl W0, fun _ => mans0 Fs.rf W0 rfl, fun c => absurd F.1.end_P c⟩
  · refine e_Mo_round_9 hl _ _ m _ _ ⟨W0.kd, _, o_people hl W0, fun c => absurd c (F.1.in_P ht), fun _ => ⟨W0.kd, _, o_line hl W0 F ht, ?_⟩⟩
    rw [nI_1]; exact ih
theorem p_escheat (hl : G.1.stackTraces = false) (hm : G.n0 ≤ m) (W : WldAt h m A) (F : Wf A) : EvM G m_Mo_escheat [.ref m] h (mans m h A (0, escF A)) := by
  have W0 := W.thr 0
  refine en_Mo_escheat h _ m (e_Mo_escheat_0 hl h _ m ⟨⟨hm, W.kd⟩, e_Mo_escheat_5 hl _ _ m ?_⟩)
  refine for_up (Q := fun t => Ev G m_Mo_escheat 9 [.ref m, .int (lp (fun p b => if A 5 p = 1 ∧ succF A p = -1 then b ||| sh1 p else b) t 0), .int (nI t)] [] _ 0 0 _) (n := nP A) ?_ (fun t ht ih => ?_) 0 (Nat.zero_le _)
  · exact e_Mo_escheat_9 hl _ _ m _ _ ⟨W0.kd, _, o_people hl W0, fun _ => mans0 Fs.rf W0 rfl, fun c => absurd F.1.end_P c⟩
  · simp only [lp] at ih
    refine e_Mo_escheat_9 hl _ _ m _ _ ⟨W0.kd, _, o_people hl W0, fun c => absurd c (F.1.in_P ht), fun _ => ⟨W0.kd, _, o_lives hl W0 (F.1.P7 ht), fun c => ?_, fun c => ⟨W0.kd, _, o_succ hl W0 F ht, fun d => ?_, fun d => ?_⟩⟩⟩
    · rw [nI_1, Int32.or_zero]; rw [if_neg (fun z => ite0 c z.1)] at ih; exact ih
    · rw [nI_1, Int32.or_zero]; rw [if_neg (fun z => d z.2)] at ih; exact ih
    · rw [nI_1]; rw [if_pos ⟨ite1 c, d⟩] at ih; exact ih
theorem p_idle (hl : G.1.stackTraces = false) (hm : G.n0 ≤ m) (W : WldAt h m A) (F : Wf A) : EvM G m_Mo_idle [.ref m] h (mans m h A (0, idlF A)) := by
  have W0 := W.thr 0
  refine en_Mo_idle h _ m (e_Mo_idle_0 hl h _ m ⟨⟨hm, W.kd⟩, e_Mo_idle_5 hl _ _ m ?_⟩)
  refine for_up (Q := fun t => Ev G m_Mo_idle 9 [.ref m, .int (lp (fun p b => if A 5 p = 1 ∧ holdF A (nI p) = -1 then b ||| sh1 p else b) t 0), .int (nI t)] [] _ 0 0 _) (n := nP A) ?_ (fun t ht ih => ?_) 0 (Nat.zero_le _)
  · exact e_Mo_idle_9 hl _ _ m _ _ ⟨W0.kd, _, o_people hl W0, fun _ => mans0 Fs.rf W0 rfl, fun c => absurd F.1.end_P c⟩
  · simp only [lp] at ih
    refine e_Mo_idle_9 hl _ _ m _ _ ⟨W0.kd, _, o_people hl W0, fun c => absurd c (F.1.in_P ht), fun _ => ⟨W0.kd, _, o_lives hl W0 (F.1.P7 ht), fun c => ?_, fun c => ⟨W0.kd, _, o_heldBy hl W0 F _, fun d => ?_, fun d => ?_⟩⟩⟩
    · rw [nI_1, Int32.or_zero]; rw [if_neg (fun z => ite0 c z.1)] at ih; exact ih
    · rw [nI_1, Int32.or_zero]; rw [if_neg (fun z => d z.2)] at ih; exact ih
    · rw [nI_1]; rw [if_pos ⟨ite1 c, d⟩] at ih; exact ih
theorem p_twins (hl : G.1.stackTraces = false) (hm : G.n0 ≤ m) (W : WldAt h m A) (F : Wf A) : EvM G m_Mo_twins [.ref m] h (mans m h A (0, twnF A)) := by
  have W0 := W.thr 0
  refine en_Mo_twins h _ m (e_Mo_twins_0 hl h _ m ⟨⟨hm, W.kd⟩, e_Mo_twins_5 hl _ _ m ?_⟩)
  refine for_up (Q := fun t => Ev G m_Mo_twins 9 [.ref m, .int (lp (fun t k => twnS A t t k) t 0), .int (nI t), un] [] _ 0 0 _) (n := nT A) ?_ (fun t ht ih => ?_) 0 (Nat.zero_le _)
  · exact e_Mo_twins_9 hl _ _ m _ _ ⟨W0.kd, _, o_things hl W0, fun _ => mans0 Fs.rf W0 rfl, fun c => absurd F.1.end_T c⟩
  · refine e_Mo_twins_9 hl _ _ m _ _ ⟨W0.kd, _, o_things hl W0, fun c => absurd c (F.1.in_T ht), fun _ => ?_⟩
    simp only [lp] at ih
    generalize lp (fun t k => twnS A t t k) t 0 = k at *
    have t10 := F.1.T10 ht
    refine for_up (Q := fun u => Ev G m_Mo_twins 19 [.ref m, .int (twnS A t u k), .int (nI t), .int (nI u)] [] _ 0 0 _) (n := t) ?_ (fun u hu ih2 => ?_) 0 (Nat.zero_le _)
    · refine e_Mo_twins_19 hl _ _ m _ _ _ ⟨fun _ => ?_, fun c => absurd (Int32.le_refl _) c⟩
      rw [nI_1]; exact ih
    · unfold twnS at ih2 ⊢
      simp only [lp] at ih2
      refine e_Mo_twins_19 hl _ _ m _ _ _ ⟨fun c => absurd c (nI_ge hu (by omega)), fun _ => ⟨W0.kd, _, o_ofThing hl W0 t10 (f := 0) (by decide), W0.kd, _, o_ofThing hl W0 (t := u) (by omega) (f := 0) (by decide), fun c => ?_, fun c => ⟨W0.kd, _, o_ofThing hl W0 t10 (f := 1) (by decide), W0.kd, _, o_ofThing hl W0 (t := u) (by omega) (f := 1) (by decide), fun d => ?_, fun d => ?_⟩⟩⟩
      · rw [nI_1, Int32.add_zero]; rw [if_neg (fun z => c z.1)] at ih2; exact ih2
      · rw [nI_1, Int32.add_zero]; rw [if_neg (fun z => d z.2)] at ih2; exact ih2
      · rw [nI_1]; rw [if_pos ⟨c, d⟩] at ih2; exact ih2
theorem o_heirHas (hl : G.1.stackTraces = false) (W : WldAt h m A) (F : Wf A) {p : Nat} (hp : p < nP A) {a b : Nat} (ha : a < 2) (hb : b < 2) : EvI G m_Mo_heirHas [.ref m, .int (nI p), .int (nI a), .int (nI b)] h (hhF (nI (2 * a + b)) (estF A p / 10) (lostF A p / 10)) := by
  refine en_Mo_heirHas h _ m _ _ _ (e_Mo_heirHas_0 hl h _ m _ _ _ ?_)
  unfold hhF
  rw [sw4 (by omega)]
  have : (a = 0 ∧ b = 0) ∨ (a = 0 ∧ b = 1) ∨ (a = 1 ∧ b = 0) ∨ (a = 1 ∧ b = 1) := by omega
  rcases this with ⟨rfl, rfl⟩ | ⟨rfl, rfl⟩ | ⟨rfl, rfl⟩ | ⟨rfl, rfl⟩
  · exact ⟨fun q => absurd rfl q, fun _ => ⟨fun q => absurd rfl q, fun _ => ⟨W.kd, _, o_estate hl W F hp, by decide, rfl, rfl⟩⟩⟩
  · exact ⟨fun q => absurd rfl q, fun _ => ⟨fun _ => ⟨rfl, rfl⟩, fun q => absurd q (by decide)⟩⟩
  · exact ⟨fun _ => ⟨fun q => absurd rfl q, fun _ => ⟨W.kd, _, o_lost hl W F hp, by decide, rfl, rfl⟩⟩, fun q => absurd q (by decide)⟩
  · exact ⟨fun _ => ⟨fun _ => ⟨rfl, rfl⟩, fun q => absurd q (by decide)⟩, fun q => absurd q (by decide)⟩
theorem o_nurseHas (hl : G.1.stackTraces = false) (W : WldAt h m A) (F : Wf A) {p : Nat} (hp : p < nP A) {a b : Nat} (ha : a < 2) (hb : b < 2) : EvI G m_Mo_nurseHas [.ref m, .int (nI p), .int (nI a), .int (nI b)] h (nnF (nI (2 * a + b)) (A 2 p)) := by
  refine en_Mo_nurseHas h _ m _ _ _ (e_Mo_nurseHas_0 hl h _ m _ _ _ ?_)
  unfold nnF
  rw [sw4 (by omega)]
  have : (a = 0 ∧ b = 0) ∨ (a = 0 ∧ b = 1) ∨ (a = 1 ∧ b = 0) ∨ (a = 1 ∧ b = 1) := by omega
  rcases this with ⟨rfl, rfl⟩ | ⟨rfl, rfl⟩ | ⟨rfl, rfl⟩ | ⟨rfl, rfl⟩
  · exact ⟨fun q => absurd rfl q, fun _ => ⟨fun q => absurd rfl q, fun _ => ⟨rfl, rfl⟩⟩⟩
  · exact ⟨fun q => absurd rfl q, fun _ => ⟨fun _ => ⟨rfl, rfl⟩, fun q => absurd q (by decide)⟩⟩
  · exact ⟨fun _ => ⟨fun q => absurd rfl q, fun _ => ⟨rfl, rfl⟩⟩, fun q => absurd q (by decide)⟩
  · exact ⟨fun _ => ⟨fun _ => ⟨W.kd, _, o_of hl W (F.1.P7 hp) (f := 1) (by decide), rfl, rfl⟩, fun q => absurd q (by decide)⟩, fun q => absurd q (by decide)⟩
theorem x2 {a b : Nat} (ha : a < 2) (hb : b < 2) : nI (2 * a + b) ^^^ 2 = nI (2 * (1 - a) + b) ∧ nI (2 * a + b) ^^^ 1 = nI (2 * a + (1 - b)) ∧ (1 : Int32) - nI a = nI (1 - a) ∧ (1 : Int32) - nI b = nI (1 - b) := by
  have : (a = 0 ∧ b = 0) ∨ (a = 0 ∧ b = 1) ∨ (a = 1 ∧ b = 0) ∨ (a = 1 ∧ b = 1) := by omega
  rcases this with ⟨rfl, rfl⟩ | ⟨rfl, rfl⟩ | ⟨rfl, rfl⟩ | ⟨rfl, rfl⟩ <;> decide
theorem p_rests (hl : G.1.stackTraces = false) (hm : G.n0 ≤ m) (W : WldAt h m A) (F : Wf A) (p : Int32) : EvM G m_Mo_rests [.ref m, .int p] h (mans m h A (anP A p (0, restF A p.toNatClampNeg))) := by
  have W0 := W.thr 0
  refine en_Mo_rests h _ m _ (e_Mo_rests_0 hl h _ m _ ⟨⟨hm, W.kd⟩, e_Mo_rests_5 hl _ _ m _ ?_⟩)
  rcases person_cases F.1 p with e | ⟨e, k, hk, rfl⟩
  · rw [anP1 e]
    refine ⟨W0.kd, 1, o_noPe hl W0 F.1 e, W0.kd, _, o_thr1 hl hm W0 1, fun o h1 z => Or.inl ⟨1, z.1, fun q => absurd q (by decide), fun _ => ?_⟩⟩
    rw [z.2]; exact mans1 fU0 W0 rfl
  · rw [anP0 e, nI_clamp (by have := F.1.P7 hk; omega)]
    refine ⟨W0.kd, 0, o_noPe hl W0 F.1 e, W0.kd, _, o_thr0 hl 1, fun o h1 z => Or.inl ⟨0, z.1, fun _ => ?_, fun q => absurd rfl q⟩⟩
    rw [z.2]
    have step : ∀ a, a < 2 → ∀ bb, Ev G m_Mo_rests 24 [.ref m, .int (nI k), .int (restG (estF A k / 10) (lostF A k / 10) (A 2 k) (2 * a + 2)), .int (nI (a + 1)), un] [] (hset h m 0 (.int 0)) 0 0 (mans m h A (0, restF A k)) → bb = restG (estF A k / 10) (lostF A k / 10) (A 2 k) (2 * a) → Ev G m_Mo_rests 32 [.ref m, .int (nI k), .int bb, .int (nI a), .int 0] [] (hset h m 0 (.int 0)) 0 0 (mans m h A (0, restF A k)) := by
      intro a ha bb nx ebb
      subst ebb
      refine for_up (Q := fun b => Ev G m_Mo_rests 32 [.ref m, .int (nI k), .int (restG (estF A k / 10) (lostF A k / 10) (A 2 k) (2 * a + b)), .int (nI a), .int (nI b)] [] (hset h m 0 (.int 0)) 0 0 (mans m h A (0, restF A k))) (n := 2) ?_ (fun b hb ih => ?_) 0 (Nat.zero_le _)
      · refine e_Mo_rests_32 hl _ _ m _ _ _ _ ⟨fun _ => ?_, fun c => absurd (by decide) c⟩
        rw [nI_1]; exact nx
      · obtain ⟨q1, q2, q3, q4⟩ := x2 ha hb
        rw [show 2 * a + (b + 1) = (2 * a + b) + 1 by omega] at ih
        unfold restG at ih ⊢
        simp only [lp] at ih
        have es : (1 : Int32) <<< (((2 : Int32) * nI a + nI b) &&& 31) = sh1 (2 * a + b) := by
          rw [show (2 : Int32) = nI 2 from rfl, pk_mul, nI_add]; rfl
        refine e_Mo_rests_32 hl _ _ m _ _ _ _ ⟨fun c => absurd c (nI_ge hb (by decide)), fun _ => ⟨W0.kd, _, o_heirHas hl W0 F hk ha hb, W0.kd, hhF (nI (2 * a + b) ^^^ 2) (estF A k / 10) (lostF A k / 10), by rw [q1, q3]; exact o_heirHas hl W0 F hk (by omega) hb, fun c => ?_, fun c => ⟨W0.kd, _, o_nurseHas hl W0 F hk ha hb, W0.kd, nnF (nI (2 * a + b) ^^^ 1) (A 2 k), by rw [q2, q4]; exact o_nurseHas hl W0 F hk ha (by omega), fun d => ?_, fun d => ?_⟩⟩⟩
        · rw [nI_1, Int32.or_zero]; rw [if_neg (fun z => z.1 c)] at ih; exact ih
        · rw [nI_1, Int32.or_zero]; rw [if_neg (fun z => z.2 d)] at ih; exact ih
        · rw [nI_1, es]; rw [if_pos ⟨c, d⟩] at ih; exact ih
    refine e_Mo_rests_24 hl _ _ m _ _ _ ⟨fun c => absurd c (by decide), fun _ => step 0 (by decide) _ ?_ rfl⟩
    refine e_Mo_rests_24 hl _ _ m _ _ _ ⟨fun c => absurd c (by decide), fun _ => step 1 (by decide) _ ?_ rfl⟩
    exact e_Mo_rests_24 hl _ _ m _ _ _ ⟨fun _ => mans0 Fs.rf W0 rfl, fun c => absurd (by decide) c⟩
theorem p_odds (hl : G.1.stackTraces = false) (hm : G.n0 ≤ m) (W : WldAt h m A) (F : Wf A) (L : MLawOk G h m T) (n : Int32) : EvM G m_Mo_odds [.ref m, .int n] h (mans m h A (anN (nI 5) n 1 (0, oddF T A n.toNatClampNeg))) := by
  have W0 := W.thr 0
  have B := F.1
  refine en_Mo_odds h _ m _ (e_Mo_odds_0 hl h _ m _ ⟨⟨hm, W.kd⟩, e_Mo_odds_5 hl _ _ m _ ?_⟩)
  rcases num_cases 5 (by decide) n with ⟨e, c⟩ | ⟨e, c1, c2, k, hk, rfl⟩
  · rw [anN1 e]
    have e0 := (in_no4 (w := n) 4 (by decide)).1 e
    refine ⟨0, o_ine hl e0, fun q => absurd rfl q, fun _ => ⟨W0.kd, _, o_thr1 hl hm W0 1, fun o h1 z => Or.inl ⟨1, z.1, fun q => absurd q (by decide), fun _ => ?_⟩⟩⟩
    rw [z.2]; exact mans1 fU0 W0 rfl
  · rw [anN0 e, nI_clamp (by omega)]
    have e0 := (in_no4 (w := nI k) 4 (by decide)).2 e
    refine ⟨1, o_ine hl e0, fun _ => ⟨W0.kd, _, o_thr0 hl 1, fun o h1 z => Or.inl ⟨0, z.1, fun _ => ?_, fun q => absurd rfl q⟩⟩, fun q => absurd q (by decide)⟩
    rw [z.2]
    refine for_up (Q := fun t => ∀ h1, WldAt h1 m A → Fs (mW m) (hset h m 0 (.int 0)) h1 → Ev G m_Mo_odds 35 [.ref m, .int (nI k), .int (lp (fun _ d => oddS T A (nP A) d) t 10000), .int (nI t), un] [] h1 0 0 _) (n := k) (fun h1 W1 F1 => ?_) (fun t ht ih h1 W1 F1 => ?_) 0 (Nat.zero_le _) _ W0 Fs.rf
    · exact e_Mo_odds_35 hl h1 _ m _ _ _ ⟨fun _ => mans0 F1 W1 rfl, fun c => absurd (Int32.le_refl _) c⟩
    · refine e_Mo_odds_35 hl h1 _ m _ _ _ ⟨fun c => absurd c (nI_ge ht (by omega)), fun _ => ?_⟩
      simp only [lp] at ih
      generalize lp (fun _ d => oddS T A (nP A) d) t 10000 = d at *
      refine for_up (Q := fun p => ∀ h2, WldAt h2 m A → Fs (mW m) (hset h m 0 (.int 0)) h2 → Ev G m_Mo_odds 43 [.ref m, .int (nI k), .int (oddS T A p d), .int (nI t), .int (nI p)] [] h2 0 0 _) (n := nP A) (fun h2 W2 F2 => ?_) (fun p hp ih2 h2 W2 F2 => ?_) 0 (Nat.zero_le _) h1 W1 F1
      · refine e_Mo_odds_43 hl h2 _ m _ _ _ _ ⟨W2.kd, _, o_people hl W2, fun _ => ?_, fun c => absurd B.end_P c⟩
        rw [nI_1]; exact ih h2 W2 F2
      · unfold oddS at ih2 ⊢
        simp only [lp] at ih2
        refine e_Mo_odds_43 hl h2 _ m _ _ _ _ ⟨W2.kd, _, o_people hl W2, fun c => absurd c (B.in_P hp), fun _ => ⟨W2.kd, _, o_lives hl W2 (B.P7 hp), fun c => ?_, fun c => ⟨W2.kd, _, o_failsOf hl W2 F ((L.thr 0).kw F2) hp, fun o3 h3 y => Or.inl ?_⟩⟩⟩
        · rw [nI_1]; rw [if_neg (ite0 c)] at ih2; exact ih2 h2 W2 F2
        · obtain ⟨y1, W3, F3⟩ := y
          refine ⟨_, y1, by decide, ?_⟩
          rw [nI_1]; rw [if_pos (ite1 c)] at ih2; exact ih2 h3 W3 (F2.tr F3)
theorem o_amount (hl : G.1.stackTraces = false) (W : WldAt h m A) (F : Wf A) (L : MLawOk G h m T) {p : Nat} (hp : p < nP A) (w : Int32) : EvM G m_Mo_amountOf [.ref m, .int w, .int (nI p)] h (mpostI m h A (amtF T A w p)) := by
  refine en_Mo_amountOf h _ m _ _ (e_Mo_amountOf_0 hl h _ m _ _ ⟨fun c => ⟨fun d => ⟨W.kd, _, o_ownedBy hl W F.1 _, W.kd, _, o_worthOf hl W F.1 _, by unfold amtF; rw [if_neg c, if_neg d], W, Fs.rf⟩, fun d => ⟨W.kd, _, o_gripsOf hl W F L hp, fun o1 h1 z => Or.inl ?_⟩⟩, fun c => ⟨W.kd, _, o_of hl W (F.1.P7 hp) (f := 0) (by decide), by unfold amtF; rw [if_pos c], W, Fs.rf⟩⟩)
  obtain ⟨z1, W1, F1⟩ := z
  exact ⟨_, z1, by unfold amtF; rw [if_neg c, if_pos d], W1, F1⟩
theorem p_most (hl : G.1.stackTraces = false) (hm : G.n0 ≤ m) (W : WldAt h m A) (F : Wf A) (L : MLawOk G h m T) (w : Int32) : EvM G m_Mo_most [.ref m, .int w] h (mans m h A (anN (nI 3) w 1 (0, mstF T A w))) := by
  have W0 := W.thr 0
  have B := F.1
  refine en_Mo_most h _ m _ (e_Mo_most_0 hl h _ m _ ⟨⟨hm, W.kd⟩, e_Mo_most_5 hl _ _ m _ ?_⟩)
  rcases num_cases 3 (by decide) w with ⟨e, c⟩ | ⟨e, c1, c2, k, hk, rfl⟩
  · rw [anN1 e]
    have e0 := (in_no4 (w := w) 2 (by decide)).1 e
    refine ⟨0, o_ine hl e0, fun q => absurd rfl q, fun _ => ⟨W0.kd, _, o_thr1 hl hm W0 1, fun o h1 z => Or.inl ⟨1, z.1, fun q => absurd q (by decide), fun _ => ?_⟩⟩⟩
    rw [z.2]; exact mans1 fU0 W0 rfl
  · rw [anN0 e]
    have e0 := (in_no4 (w := nI k) 2 (by decide)).2 e
    refine ⟨1, o_ine hl e0, fun _ => ⟨W0.kd, _, o_thr0 hl 1, fun o h1 z => Or.inl ⟨0, z.1, fun _ => ?_, fun q => absurd rfl q⟩⟩, fun q => absurd q (by decide)⟩
    rw [z.2]
    refine for_up (Q := fun t => ∀ h1, WldAt h1 m A → Fs (mW m) (hset h m 0 (.int 0)) h1 → Ev G m_Mo_most 33 [.ref m, .int (nI k), .int (lp (mstS T A (nI k)) t (-1)), .int (nI t)] [] h1 0 0 _) (n := nP A) (fun h1 W1 F1 => ?_) (fun t ht ih h1 W1 F1 => ?_) 0 (Nat.zero_le _) _ W0 Fs.rf
    · exact e_Mo_most_33 hl h1 _ m _ _ _ ⟨W1.kd, _, o_people hl W1, fun _ => mans0 F1 W1 rfl, fun c => absurd B.end_P c⟩
    · have rg := mst_rg (A := A) (T := T) (w := nI k) t
      simp only [lp] at ih
      generalize lp (mstS T A (nI k)) t (-1) = b at *
      have t7 := B.P7 ht
      refine e_Mo_most_33 hl h1 _ m _ _ _ ⟨W1.kd, _, o_people hl W1, fun c => absurd c (B.in_P ht), fun _ => ⟨W1.kd, _, o_lives hl W1 t7, fun c => ?_, fun c => ⟨fun d => ?_, fun d => ⟨W1.kd, _, o_amount hl W1 F ((L.thr 0).kw F1) ht _, fun o2 h2 y => Or.inl ?_⟩⟩⟩⟩
      · have : mstS T A (nI k) t b = b := by unfold mstS; rw [if_neg (fun z => ite0 c z.1)]
        rw [this] at ih; rw [nI_1]; exact ih h1 W1 F1
      · have : mstS T A (nI k) t b = nI t := by unfold mstS; rw [if_pos ⟨ite1 c, Or.inl d⟩]
        rw [this] at ih; rw [nI_1]; exact ih h1 W1 F1
      · obtain ⟨y1, W2, F2⟩ := y
        rcases rg with rg | ⟨q, hq, rg⟩
        · exact absurd rg d
        · subst rg
          have hcl : (nI q).toNatClampNeg = q := nI_clamp (by omega)
          refine ⟨_, y1, W2.kd, _, o_amount hl W2 F ((L.thr 0).kw (F1.tr F2)) (by omega : q < nP A) _, fun o3 h3 y => Or.inl ?_⟩
          obtain ⟨y3, W3, F3⟩ := y
          refine ⟨_, y3, fun f => ?_, fun f => ?_⟩
          · have : mstS T A (nI k) t (nI q) = nI q := by
              unfold mstS; rw [if_neg, ]
              rintro ⟨-, y | y⟩
              · exact d y
              · rw [hcl] at y; exact Int32.not_lt.mpr f y
            rw [this] at ih; rw [nI_1]; exact ih h3 W3 ((F1.tr F2).tr F3)
          · have : mstS T A (nI k) t (nI q) = nI t := by unfold mstS; rw [if_pos ⟨ite1 c, Or.inr (by rw [hcl]; exact Int32.not_le.mp f)⟩]
            rw [this] at ih; rw [nI_1]; exact ih h3 W3 ((F1.tr F2).tr F3)
end PUB2
