/-! ===== answers: the class ===== -/
def es3 (a b c : Nat) (k : Int32) : String := if k = 1 then excs a else if k = 2 then excs b else excs c
/-- the class's answer: a code (an exception) or a value -/
def cans (es : Int32 → String) (P : Nat → Nat → Prop) (h : Hp) (q : Int32 × Int32) : Res → Hp → Prop := fun o h' => Fs P h h' ∧ ((q.1 = 0 ∧ o = .inl (some (.int q.2))) ∨ (¬ q.1 = 0 ∧ o = .inr (es q.1)))
def nF : Nat → Nat → Prop := fun _ _ => False
theorem cans_ok {es : Int32 → String} {P : Nat → Nat → Prop} {h h' : Hp} {x : Int32} (f : Fs P h h') : cans es P h (0, x) (.inl (some (.int x))) h' := ⟨f, Or.inl ⟨rfl, rfl⟩⟩
theorem cans_th {es : Int32 → String} {P : Nat → Nat → Prop} {h h' : Hp} {k y : Int32} {E : String} (hk : ¬ k = 0) (e : E = es k) {n : Nat} (f : Fs P h h') (hn : h'.2.2 ≤ n) : cans es P h (k, y) (.inr E) (h'.1, h'.2.1, n) := ⟨f.nx hn, Or.inr ⟨hk, by rw [e]⟩⟩
def thrw (E : Nat) (h : Hp) : Res → Hp → Prop := fun o h' => o = .inr (excs E) ∧ ∃ n, h.2.2 ≤ n ∧ h' = (h.1, h.2.1, n)
def quiet (h : Hp) : Res → Hp → Prop := fun o h' => o = .inl none ∧ h' = h
theorem thrw_cans {es : Int32 → String} {P : Nat → Nat → Prop} {h h1 h' : Hp} {k y : Int32} {E : Nat} {o : Res} (z : thrw E h1 o h') (f : Fs P h h1) (hk : ¬ k = 0) (e : excs E = es k) : ∃ E', o = .inr E' ∧ cans es P h (k, y) (.inr E') h' := by
  obtain ⟨z1, n, z2, rfl⟩ := z
  exact ⟨_, z1, cans_th hk e f z2⟩
theorem person_cases {A : Vs} (B : Bd A) (p : Int32) : noF (A 0 0) p = 1 ∨ (noF (A 0 0) p = 0 ∧ ∃ k, k < nP A ∧ p = nI k) := by
  rw [B.1]
  rcases noF_in (n := nP A) (x := p) (by have := B.2.1; omega) with ⟨e, -⟩ | ⟨e, h⟩
  · exact Or.inl e
  · exact Or.inr ⟨e, h⟩
theorem thing_cases {A : Vs} (B : Bd A) (p : Int32) : noF (A 0 1) p = 1 ∨ (noF (A 0 1) p = 0 ∧ ∃ k, k < nT A ∧ p = nI k) := by
  rw [B.2.2.1]
  rcases noF_in (n := nT A) (x := p) (by have := B.2.2.2; omega) with ⟨e, -⟩ | ⟨e, h⟩
  · exact Or.inl e
  · exact Or.inr ⟨e, h⟩
theorem num_cases (n : Nat) (hn : n < 2 ^ 31) (p : Int32) : (noF (nI n) p = 1 ∧ (p < 0 ∨ nI n ≤ p)) ∨ (noF (nI n) p = 0 ∧ ¬ p < 0 ∧ ¬ nI n ≤ p ∧ ∃ k, k < n ∧ p = nI k) := by
  rcases noF_in (n := n) (x := p) hn with ⟨e, h⟩ | ⟨e, k, hk, rfl⟩
  · refine Or.inl ⟨e, ?_⟩
    unfold noF at e
    by_cases c : p < 0
    · exact Or.inl c
    · rw [if_neg c] at e
      by_cases d : nI n ≤ p
      · exact Or.inr d
      · rw [if_neg d] at e; exact absurd e (by decide)
  · exact Or.inr ⟨e, nI_pos (by omega), nI_ge hk hn, k, hk, rfl⟩
def anP (A : Vs) (p : Int32) (q : Int32 × Int32) : Int32 × Int32 := if noF (A 0 0) p = 1 then (1, 0) else q
def anT (A : Vs) (p : Int32) (q : Int32 × Int32) : Int32 × Int32 := if noF (A 0 1) p = 1 then (1, 0) else q
def anN (n p k : Int32) (q : Int32 × Int32) : Int32 × Int32 := if noF n p = 1 then (k, 0) else q
theorem anP0 {A : Vs} {p : Int32} {q : Int32 × Int32} (e : noF (A 0 0) p = 0) : anP A p q = q := by unfold anP; rw [if_neg (by rw [e]; decide)]
theorem anP1 {A : Vs} {p : Int32} {q : Int32 × Int32} (e : noF (A 0 0) p = 1) : anP A p q = (1, 0) := by unfold anP; rw [if_pos e]
theorem anT0 {A : Vs} {p : Int32} {q : Int32 × Int32} (e : noF (A 0 1) p = 0) : anT A p q = q := by unfold anT; rw [if_neg (by rw [e]; decide)]
theorem anT1 {A : Vs} {p : Int32} {q : Int32 × Int32} (e : noF (A 0 1) p = 1) : anT A p q = (1, 0) := by unfold anT; rw [if_pos e]
theorem anN0 {n p k : Int32} {q : Int32 × Int32} (e : noF n p = 0) : anN n p k q = q := by unfold anN; rw [if_neg (by rw [e]; decide)]
theorem anN1 {n p k : Int32} {q : Int32 × Int32} (e : noF n p = 1) : anN n p k q = (k, 0) := by unfold anN; rw [if_pos e]
section PUB1
variable {G : Gx} {h : Hp} {x v : Nat} {A : Vs} {la : Nat} {T : Tt}
theorem c_needNumber1 (hl : G.1.stackTraces = false) : EvM G m_Gr_needNumber [.int 1] h (quiet h) := en_Gr_needNumber h _ _ (e_Gr_needNumber_0 hl h _ _ ⟨fun _ => ⟨rfl, rfl⟩, fun q => absurd q (by decide)⟩)
theorem c_needNumber0 (hl : G.1.stackTraces = false) : EvM G m_Gr_needNumber [.int 0] h (thrw 0 h) := en_Gr_needNumber h _ _ (e_Gr_needNumber_0 hl h _ _ ⟨fun q => absurd rfl q, fun _ n hn => ⟨rfl, n, hn, rfl⟩⟩)
theorem c_needState1 (hl : G.1.stackTraces = false) : EvM G m_Gr_needState [.int 1] h (quiet h) := en_Gr_needState h _ _ (e_Gr_needState_0 hl h _ _ ⟨fun _ => ⟨rfl, rfl⟩, fun q => absurd q (by decide)⟩)
theorem c_needState0 (hl : G.1.stackTraces = false) : EvM G m_Gr_needState [.int 0] h (thrw 1 h) := en_Gr_needState h _ _ (e_Gr_needState_0 hl h _ _ ⟨fun q => absurd rfl q, fun _ n hn => ⟨rfl, n, hn, rfl⟩⟩)
theorem isP_no {n p : Int32} : (if p < 0 then (0 : Int32) else if n ≤ p then 0 else 1) = (if noF n p = 1 then 0 else 1) := by
  unfold noF
  by_cases c : p < 0
  · rw [if_pos c, if_pos c]; rfl
  · rw [if_neg c, if_neg c]
    by_cases d : n ≤ p
    · rw [if_pos d, if_pos d]; rfl
    · rw [if_neg d, if_neg d]; rfl
theorem c_needPerson1 (hl : G.1.stackTraces = false) (X : fR h 10 x 5 v) (V : VlyAt h v A la) {p : Int32} (e : noF (A 0 0) p = 0) : EvM G m_Gr_needPerson [.ref x, .int p] h (quiet h) :=
  en_Gr_needPerson h _ x _ (e_Gr_needPerson_0 hl h _ x _ ⟨_, X, V.kd, _, v_isPerson hl V p, fun _ => ⟨rfl, rfl⟩, fun q => absurd q (by rw [isP_no, if_neg (by rw [e]; decide)]; decide)⟩)
theorem c_needPerson0 (hl : G.1.stackTraces = false) (X : fR h 10 x 5 v) (V : VlyAt h v A la) {p : Int32} (e : noF (A 0 0) p = 1) : EvM G m_Gr_needPerson [.ref x, .int p] h (thrw 2 h) :=
  en_Gr_needPerson h _ x _ (e_Gr_needPerson_0 hl h _ x _ ⟨_, X, V.kd, _, v_isPerson hl V p, fun q => absurd (by rw [isP_no, if_pos e]) q, fun _ n hn => ⟨rfl, n, hn, rfl⟩⟩)
theorem c_needThing1 (hl : G.1.stackTraces = false) (X : fR h 10 x 5 v) (V : VlyAt h v A la) {p : Int32} (e : noF (A 0 1) p = 0) : EvM G m_Gr_needThing [.ref x, .int p] h (quiet h) :=
  en_Gr_needThing h _ x _ (e_Gr_needThing_0 hl h _ x _ ⟨_, X, V.kd, _, v_isThing hl V p, fun _ => ⟨rfl, rfl⟩, fun q => absurd q (by rw [isP_no, if_neg (by rw [e]; decide)]; decide)⟩)
theorem c_needThing0 (hl : G.1.stackTraces = false) (X : fR h 10 x 5 v) (V : VlyAt h v A la) {p : Int32} (e : noF (A 0 1) p = 1) : EvM G m_Gr_needThing [.ref x, .int p] h (thrw 2 h) :=
  en_Gr_needThing h _ x _ (e_Gr_needThing_0 hl h _ x _ ⟨_, X, V.kd, _, v_isThing hl V p, fun q => absurd (by rw [isP_no, if_pos e]) q, fun _ n hn => ⟨rfl, n, hn, rfl⟩⟩)
theorem c_round (hl : G.1.stackTraces = false) (X : fR h 10 x 5 v) (V : VlyAt h v A la) (F : Wf A) : EvI G m_Gr_round [.ref x] h (rndF A) := by
  refine en_Gr_round h _ x (e_Gr_round_0 hl h _ x ?_)
  refine for_up (Q := fun t => Ev G m_Gr_round 4 [.ref x, .int (lp (fun p b => b ||| (lineF A p &&& sh1 p)) t 0), .int (nI t)] [] h 0 0 _) (n := nP A) ?_ (fun t ht ih => ?_) 0 (Nat.zero_le _)
  · exact e_Gr_round_4 hl h _ x _ _ ⟨_, X, _, V.f0, fun _ => ⟨rfl, rfl⟩, fun c => absurd F.1.end_P c⟩
  · refine e_Gr_round_4 hl h _ x _ _ ⟨_, X, _, V.f0, fun c => absurd c (F.1.in_P ht), fun _ => ⟨_, X, _, e_line hl V F ht, ?_⟩⟩
    rw [nI_1]; exact ih
theorem c_escheat (hl : G.1.stackTraces = false) (X : fR h 10 x 5 v) (V : VlyAt h v A la) (F : Wf A) : EvI G m_Gr_escheat [.ref x] h (escF A) := by
  refine en_Gr_escheat h _ x (e_Gr_escheat_0 hl h _ x ?_)
  refine for_up (Q := fun t => Ev G m_Gr_escheat 4 [.ref x, .int (lp (fun p b => if A 5 p = 1 ∧ succF A p = -1 then b ||| sh1 p else b) t 0), .int (nI t)] [] h 0 0 _) (n := nP A) ?_ (fun t ht ih => ?_) 0 (Nat.zero_le _)
  · exact e_Gr_escheat_4 hl h _ x _ _ ⟨_, X, _, V.f0, fun _ => ⟨rfl, rfl⟩, fun c => absurd F.1.end_P c⟩
  · simp only [lp] at ih
    refine e_Gr_escheat_4 hl h _ x _ _ ⟨_, X, _, V.f0, fun c => absurd c (F.1.in_P ht), fun _ => ⟨_, X, V.kd, _, v_living hl V F.1 ht, fun c => ?_, fun c => ⟨_, X, V.kd, _, v_successor hl V F.1 F.2.1 ht, fun d => ?_, fun d => ?_⟩⟩⟩
    · rw [nI_1]; rw [if_neg (fun z => ite0 c z.1)] at ih; exact ih
    · rw [nI_1]; rw [if_neg (fun z => d z.2)] at ih; exact ih
    · rw [nI_1]; rw [if_pos ⟨ite1 c, d⟩] at ih; exact ih
theorem c_idle (hl : G.1.stackTraces = false) (X : fR h 10 x 5 v) (V : VlyAt h v A la) (F : Wf A) : EvI G m_Gr_idle [.ref x] h (idlF A) := by
  refine en_Gr_idle h _ x (e_Gr_idle_0 hl h _ x ?_)
  refine for_up (Q := fun t => Ev G m_Gr_idle 4 [.ref x, .int (lp (fun p b => if A 5 p = 1 ∧ holdF A (nI p) = -1 then b ||| sh1 p else b) t 0), .int (nI t)] [] h 0 0 _) (n := nP A) ?_ (fun t ht ih => ?_) 0 (Nat.zero_le _)
  · exact e_Gr_idle_4 hl h _ x _ _ ⟨_, X, _, V.f0, fun _ => ⟨rfl, rfl⟩, fun c => absurd F.1.end_P c⟩
  · simp only [lp] at ih
    refine e_Gr_idle_4 hl h _ x _ _ ⟨_, X, _, V.f0, fun c => absurd c (F.1.in_P ht), fun _ => ⟨_, X, V.kd, _, v_living hl V F.1 ht, fun c => ?_, fun c => ⟨_, X, V.kd, _, v_holding hl V F.1 _, fun d => ?_, fun d => ?_⟩⟩⟩
    · rw [nI_1]; rw [if_neg (fun z => ite0 c z.1)] at ih; exact ih
    · rw [nI_1]; rw [if_neg (fun z => d z.2)] at ih; exact ih
    · rw [nI_1]; rw [if_pos ⟨ite1 c, d⟩] at ih; exact ih
theorem c_watch (hl : G.1.stackTraces = false) (X : fR h 10 x 5 v) (V : VlyAt h v A la) (F : Wf A) : EvI G m_Gr_watch [.ref x] h (wchF A) := en_Gr_watch h _ x (e_Gr_watch_0 hl h _ x ⟨_, X, _, e_fewest hl V F, rfl, rfl⟩)
theorem c_living (hl : G.1.stackTraces = false) (X : fR h 10 x 5 v) (V : VlyAt h v A la) : EvI G m_Gr_living [.ref x] h (flagF A 5) := en_Gr_living h _ x (e_Gr_living_0 hl h _ x ⟨_, X, _, V.f5, rfl, rfl⟩)
theorem c_crown (hl : G.1.stackTraces = false) (X : fR h 10 x 5 v) (V : VlyAt h v A la) (F : Wf A) : EvI G m_Gr_crown [.ref x] h (ownF A (-1)) := en_Gr_crown h _ x (e_Gr_crown_0 hl h _ x ⟨_, X, V.kd, _, v_ownedBy hl V F.1 _, rfl, rfl⟩)
theorem c_wealth (hl : G.1.stackTraces = false) (X : fR h 10 x 5 v) (V : VlyAt h v A la) (F : Wf A) : EvI G m_Gr_wealth [.ref x] h (worthF A (ownF A (-1))) := en_Gr_wealth h _ x (e_Gr_wealth_0 hl h _ x ⟨_, X, V.kd, _, v_crownWealth hl V F.1, rfl, rfl⟩)
theorem c_twins (hl : G.1.stackTraces = false) (X : fR h 10 x 5 v) (V : VlyAt h v A la) (F : Wf A) : EvI G m_Gr_twins [.ref x] h (twnF A) := by
  refine en_Gr_twins h _ x (e_Gr_twins_0 hl h _ x ?_)
  refine for_up (Q := fun t => Ev G m_Gr_twins 4 [.ref x, .int (lp (fun t k => twnS A t t k) t 0), .int (nI t), un] [] h 0 0 _) (n := nT A) ?_ (fun t ht ih => ?_) 0 (Nat.zero_le _)
  · exact e_Gr_twins_4 hl h _ x _ _ ⟨_, X, _, V.f6, fun _ => ⟨rfl, rfl⟩, fun c => absurd F.1.end_T c⟩
  · refine e_Gr_twins_4 hl h _ x _ _ ⟨_, X, _, V.f6, fun c => absurd c (F.1.in_T ht), fun _ => ?_⟩
    simp only [lp] at ih
    generalize lp (fun t k => twnS A t t k) t 0 = k at *
    have t10 := F.1.T10 ht
    refine for_up (Q := fun u => Ev G m_Gr_twins 17 [.ref x, .int (twnS A t u k), .int (nI t), .int (nI u)] [] h 0 0 _) (n := t) ?_ (fun u hu ih2 => ?_) 0 (Nat.zero_le _)
    · refine e_Gr_twins_17 hl h _ x _ _ _ ⟨fun _ => ?_, fun c => absurd (Int32.le_refl _) c⟩
      rw [nI_1]; exact ih
    · unfold twnS at ih2 ⊢
      simp only [lp] at ih2
      refine e_Gr_twins_17 hl h _ x _ _ _ ⟨fun c => absurd c (nI_ge hu (by omega)), fun _ => ⟨_, X, _, V.r7, _, V.a6 t10, _, X, _, V.r7, _, V.a6 (by omega), fun c => ?_, fun c => ⟨_, X, _, V.r8, _, V.a7 t10, _, X, _, V.r8, _, V.a7 (by omega), fun d => ?_, fun d => ?_⟩⟩⟩
      · rw [nI_1]; rw [if_neg (fun z => c z.1)] at ih2; exact ih2
      · rw [nI_1]; rw [if_neg (fun z => d z.2)] at ih2; exact ih2
      · rw [nI_1]; rw [if_pos ⟨c, d⟩] at ih2; exact ih2
theorem c_rests (hl : G.1.stackTraces = false) (X : fR h 10 x 5 v) (V : VlyAt h v A la) (F : Wf A) (p : Int32) : EvM G m_Gr_rests [.ref x, .int p] h (cans (es3 2 2 2) nF h (anP A p (0, restF A p.toNatClampNeg))) := by
  rcases person_cases F.1 p with e | ⟨e, k, hk, rfl⟩
  · rw [anP1 e]
    exact en_Gr_rests h _ x _ (e_Gr_rests_0 hl h _ x _ ⟨X.1, _, c_needPerson0 hl X V e, by decide, fun o h1 z => Or.inr (thrw_cans z Fs.rf (by decide) rfl)⟩)
  · rw [anP0 e, nI_clamp (by have := F.1.P7 hk; omega)]
    refine en_Gr_rests h _ x _ (e_Gr_rests_0 hl h _ x _ ⟨X.1, _, c_needPerson1 hl X V e, by decide, fun o h1 z => Or.inl ⟨z.1, ?_⟩⟩)
    rw [z.2]
    exact ⟨_, X, _, e_resting hl V F hk, cans_ok Fs.rf⟩
theorem c_shuts (hl : G.1.stackTraces = false) (X : fR h 10 x 5 v) (V : VlyAt h v A la) (F : Wf A) (L : LawOk G h la T) (p t : Int32) : EvM G m_Gr_shuts [.ref x, .int p, .int t] h (cans (es3 2 2 2) nF h (anP A p (anT A t (0, shutF T A p.toNatClampNeg t.toNatClampNeg)))) := by
  rcases person_cases F.1 p with e | ⟨e, k, hk, rfl⟩
  · rw [anP1 e]
    exact en_Gr_shuts h _ x _ _ (e_Gr_shuts_0 hl h _ x _ _ ⟨X.1, _, c_needPerson0 hl X V e, by decide, fun o h1 z => Or.inr (thrw_cans z Fs.rf (by decide) rfl)⟩)
  · rw [anP0 e, nI_clamp (by have := F.1.P7 hk; omega)]
    refine en_Gr_shuts h _ x _ _ (e_Gr_shuts_0 hl h _ x _ _ ⟨X.1, _, c_needPerson1 hl X V e, by decide, fun o h1 z => Or.inl ⟨z.1, ?_⟩⟩)
    rw [z.2]
    rcases thing_cases F.1 t with e2 | ⟨e2, j, hj, rfl⟩
    · rw [anT1 e2]
      exact ⟨X.1, _, c_needThing0 hl X V e2, by decide, fun o h1 z => Or.inr (thrw_cans z Fs.rf (by decide) rfl)⟩
    · rw [anT0 e2, nI_clamp (by have := F.1.T10 hj; omega)]
      refine ⟨X.1, _, c_needThing1 hl X V e2, by decide, fun o h1 z => Or.inl ⟨z.1, ?_⟩⟩
      rw [z.2]
      exact ⟨_, X, _, e_shutting hl V F L hk hj, cans_ok Fs.rf⟩
theorem c_most (hl : G.1.stackTraces = false) (X : fR h 10 x 5 v) (V : VlyAt h v A la) (F : Wf A) (L : LawOk G h la T) (w : Int32) : EvM G m_Gr_most [.ref x, .int w] h (cans (es3 4 4 4) nF h (anN (nI 3) w 1 (0, mstF T A w))) := by
  rcases num_cases 3 (by decide) w with ⟨e, c⟩ | ⟨e, c1, c2, k, hk, rfl⟩
  · rw [anN1 e]
    refine en_Gr_most h _ x _ (e_Gr_most_0 hl h _ x _ ⟨fun _ n hn => cans_th (by decide) rfl Fs.rf hn, fun d => ⟨fun f => ?_, fun _ n hn => cans_th (by decide) rfl Fs.rf hn⟩⟩)
    exfalso
    rcases c with c | c
    · exact d c
    · exact absurd (Int32.le_trans c f) (by decide)
  · rw [anN0 e]
    exact en_Gr_most h _ x _ (e_Gr_most_0 hl h _ x _ ⟨fun d => absurd d c1, fun _ => ⟨fun _ => ⟨_, X, _, e_foremost hl V F L _, cans_ok Fs.rf⟩, fun d => absurd (nI_le (by omega : k ≤ 2) (by decide)) d⟩⟩)
theorem c_odds (hl : G.1.stackTraces = false) (X : fR h 10 x 5 v) (V : VlyAt h v A la) (F : Wf A) (L : LawOk G h la T) (n : Int32) : EvM G m_Gr_odds [.ref x, .int n] h (cans (es3 0 0 0) nF h (anN (nI 5) n 1 (0, oddF T A n.toNatClampNeg))) := by
  rcases num_cases 5 (by decide) n with ⟨e, c⟩ | ⟨e, c1, c2, k, hk, rfl⟩
  · rw [anN1 e]
    refine en_Gr_odds h _ x _ (e_Gr_odds_0 hl h _ x _ ⟨fun _ => ⟨_, c_needNumber0 hl, by decide, fun o h1 z => Or.inr (thrw_cans z Fs.rf (by decide) rfl)⟩, fun d => ⟨fun _ => ⟨_, c_needNumber0 hl, by decide, fun o h1 z => Or.inr (thrw_cans z Fs.rf (by decide) rfl)⟩, fun f => ?_⟩⟩)
    exfalso
    rcases c with c | c
    · exact d c
    · exact f (Int32.lt_of_lt_of_le (by decide : (4 : Int32) < nI 5) c)
  · rw [anN0 e, nI_clamp (by omega)]
    refine en_Gr_odds h _ x _ (e_Gr_odds_0 hl h _ x _ ⟨fun d => absurd d c1, fun _ => ⟨fun d => absurd d (nI_nlt (by omega : k ≤ 4) (by decide)), fun _ => ⟨_, c_needNumber1 hl, by decide, fun o h1 z => Or.inl ⟨z.1, ?_⟩⟩⟩⟩)
    rw [z.2]
    exact ⟨_, X, _, e_odds hl V F L (by omega), cans_ok Fs.rf⟩
theorem c_hoard (hl : G.1.stackTraces = false) (X : fR h 10 x 5 v) (V : VlyAt h v A la) (F : Wf A) (p w b : Int32) : EvM G m_Gr_hoard [.ref x, .int p, .int w, .int b] h (cans (es3 2 0 0) nF h (anP A p (anN (nI 121) w 2 (0, if b = 0 then worthF A (baskF A (ownF A p) w) else baskF A (ownF A p) w)))) := by
  rcases person_cases F.1 p with e | ⟨e, k, hk, rfl⟩
  · rw [anP1 e]
    exact en_Gr_hoard h _ x _ _ _ (e_Gr_hoard_0 hl h _ x _ _ _ ⟨X.1, _, c_needPerson0 hl X V e, by decide, fun o h1 z => Or.inr (thrw_cans z Fs.rf (by decide) rfl)⟩)
  · rw [anP0 e]
    refine en_Gr_hoard h _ x _ _ _ (e_Gr_hoard_0 hl h _ x _ _ _ ⟨X.1, _, c_needPerson1 hl X V e, by decide, fun o h1 z => Or.inl ⟨z.1, ?_⟩⟩)
    rw [z.2]
    rcases num_cases 121 (by decide) w with ⟨e2, c⟩ | ⟨e2, c1, c2, j, hj, rfl⟩
    · rw [anN1 e2]
      refine ⟨fun _ => ⟨_, c_needNumber0 hl, by decide, fun o h1 z => Or.inr (thrw_cans z Fs.rf (by decide) rfl)⟩, fun d => ⟨fun _ => ⟨_, c_needNumber0 hl, by decide, fun o h1 z => Or.inr (thrw_cans z Fs.rf (by decide) rfl)⟩, fun f => ?_⟩⟩
      exfalso
      rcases c with c | c
      · exact d c
      · exact f (Int32.lt_of_lt_of_le (by decide : (120 : Int32) < nI 121) c)
    · rw [anN0 e2]
      refine ⟨fun d => absurd d c1, fun _ => ⟨fun d => absurd d (nI_nlt (by omega : j ≤ 120) (by decide)), fun _ => ⟨_, c_needNumber1 hl, by decide, fun o h1 z => Or.inl ⟨z.1, ?_⟩⟩⟩⟩
      rw [z.2]
      refine ⟨_, X, _, e_basket hl V F _ _, fun d => ⟨_, X, V.kd, _, v_worthOf hl V F.1 _, ?_⟩, fun d => ?_⟩
      · rw [if_pos d]; exact cans_ok Fs.rf
      · rw [if_neg d]; exact cans_ok Fs.rf
def thgF (A : Vs) (t : Nat) (w : Int32) : Int32 := A (6 + w.toNatClampNeg) t
theorem c_thing (hl : G.1.stackTraces = false) (X : fR h 10 x 5 v) (V : VlyAt h v A la) (F : Wf A) (t w : Int32) : EvM G m_Gr_thing [.ref x, .int t, .int w] h (cans (es3 2 4 4) nF h (anT A t (anN (nI 5) w 2 (0, thgF A t.toNatClampNeg w)))) := by
  rcases thing_cases F.1 t with e | ⟨e, k, hk, rfl⟩
  · rw [anT1 e]
    exact en_Gr_thing h _ x _ _ (e_Gr_thing_0 hl h _ x _ _ ⟨X.1, _, c_needThing0 hl X V e, by decide, fun o h1 z => Or.inr (thrw_cans z Fs.rf (by decide) rfl)⟩)
  · have k10 := F.1.T10 hk
    rw [anT0 e, nI_clamp (by omega)]
    refine en_Gr_thing h _ x _ _ (e_Gr_thing_0 hl h _ x _ _ ⟨X.1, _, c_needThing1 hl X V e, by decide, fun o h1 z => Or.inl ⟨z.1, ?_⟩⟩)
    rw [z.2]
    rcases num_cases 5 (by decide) w with ⟨e2, c⟩ | ⟨e2, c1, c2, j, hj, rfl⟩
    · rw [anN1 e2]
      have no : ∀ i, i < 5 → ¬ w = nI i := fun i hi z => by
        rcases c with c | c
        · rw [z] at c; exact nI_pos (by omega) c
        · rw [z] at c; exact nI_ge hi (by decide) c
      exact ⟨⟨fun q => absurd q (no 0 (by decide)), fun q => absurd q (no 1 (by decide)), fun q => absurd q (no 2 (by decide)), fun q => absurd q (no 3 (by decide)), fun q => absurd q (no 4 (by decide)), trivial⟩, fun _ n hn => cans_th (by decide) rfl Fs.rf hn⟩
    · rw [anN0 e2]
      unfold thgF
      rw [nI_clamp (by omega)]
      have hj' : j = 0 ∨ j = 1 ∨ j = 2 ∨ j = 3 ∨ j = 4 := by omega
      refine ⟨⟨fun q => ?_, fun q => ?_, fun q => ?_, fun q => ?_, fun q => ?_, trivial⟩, fun q => absurd q (by rintro (y | y); exact c1 y; exact c2 y)⟩
      · have : j = 0 := (nI_eq (by omega) (by decide)).mp (show nI j = nI 0 from q)
        subst this; exact ⟨_, X, _, V.r7, _, V.a6 k10, cans_ok Fs.rf⟩
      · have : j = 1 := (nI_eq (by omega) (by decide)).mp (show nI j = nI 1 from q)
        subst this; exact ⟨_, X, _, V.r8, _, V.a7 k10, cans_ok Fs.rf⟩
      · have : j = 2 := (nI_eq (by omega) (by decide)).mp (show nI j = nI 2 from q)
        subst this; exact ⟨_, X, _, V.r9, _, V.a8 k10, cans_ok Fs.rf⟩
      · have : j = 3 := (nI_eq (by omega) (by decide)).mp (show nI j = nI 3 from q)
        subst this; exact ⟨_, X, _, V.r10, _, V.a9 k10, cans_ok Fs.rf⟩
      · have : j = 4 := (nI_eq (by omega) (by decide)).mp (show nI j = nI 4 from q)
        subst this; exact ⟨_, X, _, V.r11, _, V.a10 k10, cans_ok Fs.rf⟩
def logN (A : Vs) : Nat := (A 0 7).toNatClampNeg
theorem logN_eq {A : Vs} (F : Wf A) : logN A ≤ 60 ∧ A 0 7 = nI (logN A) := by
  obtain ⟨n, hn, e⟩ := F.2.2.2.2.2.1
  have : logN A = n := by unfold logN; rw [e]; exact nI_clamp (by omega)
  rw [this]; exact ⟨hn, e⟩
def ledF (A : Vs) (p b : Int32) : Int32 := if b = 0 then rowsF A p (logN A) else lateG A p (logN A) 0
theorem c_led (hl : G.1.stackTraces = false) (X : fR h 10 x 5 v) (V : VlyAt h v A la) (F : Wf A) (p b : Int32) : EvM G m_Gr_led [.ref x, .int p, .int b] h (cans (es3 2 2 2) nF h (anP A p (0, ledF A p b))) := by
  obtain ⟨hn, e7⟩ := logN_eq F
  rcases person_cases F.1 p with e | ⟨e, k, hk, rfl⟩
  · rw [anP1 e]
    exact en_Gr_led h _ x _ _ (e_Gr_led_0 hl h _ x _ _ ⟨X.1, _, c_needPerson0 hl X V e, by decide, fun o h1 z => Or.inr (thrw_cans z Fs.rf (by decide) rfl)⟩)
  · rw [anP0 e]
    refine en_Gr_led h _ x _ _ (e_Gr_led_0 hl h _ x _ _ ⟨X.1, _, c_needPerson1 hl X V e, by decide, fun o h1 z => Or.inl ⟨z.1, ?_⟩⟩)
    rw [z.2]
    unfold ledF
    refine ⟨fun d => ⟨_, X, _, V.r18, V.2.2.2.kd, _, l_rowsOf hl V.2.2.2 hn e7 _, ?_⟩, fun d => ⟨_, X, _, V.r18, V.2.2.2.kd, _, l_latest hl V.2.2.2 hn e7 _, ?_⟩⟩
    · rw [if_pos d]; exact cans_ok Fs.rf
    · rw [if_neg d]; exact cans_ok Fs.rf
def lgF (A : Vs) (ago : Int32) (w : Nat) : Int32 := if ago < 0 then -2 else if A 0 7 ≤ ago then -2 else A (20 + w) ago.toNatClampNeg
theorem c_log (hl : G.1.stackTraces = false) (X : fR h 10 x 5 v) (V : VlyAt h v A la) (ago w : Int32) : EvM G m_Gr_log [.ref x, .int ago, .int w] h (cans (es3 4 4 4) nF h (anN (nI 5) w 1 (0, lgF A ago w.toNatClampNeg))) := by
  rcases num_cases 5 (by decide) w with ⟨e, c⟩ | ⟨e, c1, c2, k, hk, rfl⟩
  · rw [anN1 e]
    refine en_Gr_log h _ x _ _ (e_Gr_log_0 hl h _ x _ _ ⟨fun _ n hn => cans_th (by decide) rfl Fs.rf hn, fun d => ⟨fun f => ?_, fun _ n hn => cans_th (by decide) rfl Fs.rf hn⟩⟩)
    exfalso
    rcases c with c | c
    · exact d c
    · exact absurd f (Int32.not_lt.mpr c)
  · rw [anN0 e, nI_clamp (by omega)]
    exact en_Gr_log h _ x _ _ (e_Gr_log_0 hl h _ x _ _ ⟨fun d => absurd d c1, fun _ => ⟨fun _ => ⟨_, X, _, V.r18, V.2.2.2.kd, _, l_read hl V.2.2.2 ago hk, cans_ok Fs.rf⟩, fun d => absurd (nI_lt hk (by decide)) d⟩⟩)
end PUB1
