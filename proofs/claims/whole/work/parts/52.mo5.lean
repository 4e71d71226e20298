/-! ===== the reference: nights go on ===== -/
def livN (A : Vs) : Int32 := bcF (flagF A 5)
theorem cnt_drop {c : Nat → Prop} [DecidablePred c] {p : Nat} (hc : c p) : ∀ n, p < n → lp (fun t (k : Int32) => if c t then k + 1 else k) n 0 = lp (fun t (k : Int32) => if c t ∧ t ≠ p then k + 1 else k) n 0 + 1 := by
  intro n
  induction n with
  | zero => intro h; omega
  | succ n ih =>
    intro hp
    simp only [lp]
    by_cases z : p = n
    · subst z
      rw [if_pos hc, if_neg (fun q => q.2 rfl)]
      congr 1
      exact lp_congr (fun t ht k => by
        by_cases q : c t
        · rw [if_pos q, if_pos ⟨q, by omega⟩]
        · rw [if_neg q, if_neg (fun y => q y.1)]) 0
    · rw [ih (by omega)]
      by_cases q : c n
      · rw [if_pos q, if_pos ⟨q, fun y => z y.symm⟩]
      · rw [if_neg q, if_neg (fun y => q y.1)]
theorem livN_drop {A : Vs} (B : Bd A) {p : Nat} (hp : p < nP A) (h1 : A 5 p = 1) : livN A = livN (up A 5 p 0) + 1 := by
  have h7 := B.2.1
  have e1 : livN A = lp (fun t k => if A 5 t = 1 then k + 1 else k) (nP A) 0 := bc_lp (c := fun t => A 5 t = 1) (by omega)
  have e2 : livN (up A 5 p 0) = lp (fun t k => if up A 5 p 0 5 t = 1 then k + 1 else k) (nP A) 0 := by
    have := bc_lp (c := fun t => up A 5 p 0 5 t = 1) (n := nP (up A 5 p 0)) (by rw [nP_up (by omega)]; omega)
    rw [nP_up (by omega)] at this
    unfold livN flagF
    rw [nP_up (by omega)]
    exact this
  rw [e1, e2, cnt_drop (c := fun t => A 5 t = 1) h1 (nP A) hp]
  congr 1
  refine lp_congr (fun t ht k => ?_) 0
  by_cases z : t = p
  · subst z; rw [up_same, if_neg (fun q => q.2 rfl), if_neg (by decide)]
  · rw [up_ne (fun q => z q.2)]
    by_cases q : A 5 t = 1
    · rw [if_pos ⟨q, z⟩, if_pos q]
    · rw [if_neg (fun y => q y.1), if_neg q]
theorem livN_congr {A A' : Vs} (hp : nP A' = nP A) (e : ∀ p, p < nP A → A' 5 p = A 5 p) : livN A' = livN A := by unfold livN; rw [flagF_congr hp e]
theorem livN_die {A : Vs} (F : Wf A) {p : Nat} (hp : p < nP A) (h1 : A 5 p = 1) : livN A = livN (dieF A p) + 1 := by
  rw [livN_drop F.1 hp h1, dieF_eq]
  suffices e : livN (up A 5 p 0) = livN (logA (deadA A p) (A 0 2) (nI p) 3 (holdF A (nI p)) (A 1 p)) by rw [e]
  refine livN_congr (A' := up A 5 p 0) (A := logA (deadA A p) (A 0 2) (nI p) 3 (holdF A (nI p)) (A 1 p)) ?_ ?_
  · rw [nP_up (by omega), Kp.log.1, Kp.dead.1]
  · intro q hq
    rw [logA_lo (by omega)]
    by_cases z : q = p
    · subst z; unfold deadA; rw [up_same, up_same]
    · rw [up_ne (fun y => z y.2), deadA_lo ⟨Or.inl (by decide), fun y => z y.2⟩]
theorem letS_5 {A : Vs} {T : Tt} {p : Nat} (q : Nat) : letS T p A 5 q = A 5 q := by
  unfold letS
  split
  · split
    · rfl
    · split
      · rfl
      · rw [logA_lo (by omega), mvA_ne (by omega)]
  · rfl
theorem feelS_5 {A : Vs} {T : Tt} {p : Nat} (q : Nat) : feelS T p A 5 q = A 5 q := by
  unfold feelS
  split
  · split
    · rfl
    · split
      · split
        · rw [logA_lo (by omega), up_ne (by omega)]
        · rw [logA_lo (by omega), mvA_ne (by omega), up_ne (by omega)]
      · rfl
  · rfl
theorem livN_let {A : Vs} (F : Wf A) (T : Tt) : livN (letF T A) = livN A := livN_congr (F.let' T _ (Nat.le_refl _)).2.1 (fun p _ => lp_inv (f := letS T) (I := fun A' => A' 5 p = A 5 p) rfl (fun t a' _ e => (letS_5 p).trans e) (nP A) (Nat.le_refl _))
theorem livN_feel {A : Vs} (F : Wf A) (T : Tt) : livN (feelF T A) = livN A := livN_congr (F.feel' T _ (Nat.le_refl _)).2.1 (fun p _ => lp_inv (f := feelS T) (I := fun A' => A' 5 p = A 5 p) rfl (fun t a' _ e => (feelS_5 p).trans e) (nP A) (Nat.le_refl _))
theorem livN_night {A : Vs} : livN (nightF A) = livN A := by unfold nightF; exact livN_congr (nP_up (by omega)) (fun q _ => up_ne (by omega))
section MO5
variable {G : Gx} {h h' : Hp} {m : Nat} {A : Vs} {T : Tt}
theorem o_someDie (hl : G.1.stackTraces = false) (hm : G.n0 ≤ m) (W : WldAt h m A) (F : Wf A) (L : MLawOk G h m T) : EvM G m_Mo_someDie [.ref m] h (mpostI m h (wakeF T A) (livN A - livN (wakeF T A))) := by
  refine en_Mo_someDie h _ m (e_Mo_someDie_0 hl h _ m ?_)
  have start : (0 : Int32) = livN A - livN (lp (wakeS T) 0 A) := by show (0 : Int32) = livN A - livN A; rw [Int32.sub_self]
  suffices hh : Ev G m_Mo_someDie 4 [.ref m, .int (livN A - livN (lp (wakeS T) 0 A)), .int (nI 0)] [] h 0 0 (mpostI m h (wakeF T A) (livN A - livN (wakeF T A))) by rw [← start] at hh; exact hh
  refine for_up (Q := fun t => ∀ h1, WldAt h1 m (lp (wakeS T) t A) → Fs (mW m) h h1 → Ev G m_Mo_someDie 4 [.ref m, .int (livN A - livN (lp (wakeS T) t A)), .int (nI t)] [] h1 0 0 _) (n := nP A) (fun h1 W1 F1 => ?_) (fun t ht ih h1 W1 F1 => ?_) 0 (Nat.zero_le _) h W Fs.rf
  · obtain ⟨Q1, K1⟩ := F.wake' T (nP A) (Nat.le_refl _)
    exact e_Mo_someDie_4 hl h1 _ m _ _ ⟨W1.kd, _, o_people hl W1, fun _ => ⟨rfl, W1, F1⟩, fun c => absurd (by have := Q1.1.end_P; rw [K1.1] at this; exact this) c⟩
  · obtain ⟨Q1, K1⟩ := F.wake' T t (Nat.le_of_lt ht)
    have L1 := L.kw F1
    have hp : t < nP (lp (wakeS T) t A) := by rw [K1.1]; exact ht
    rw [show lp (wakeS T) (t + 1) A = wakeS T t (lp (wakeS T) t A) from rfl] at ih
    generalize hA : lp (wakeS T) t A = A1 at *
    have hp7 := Q1.1.P7 hp
    have main : A1 5 t = 1 → ∀ h2, WldAt h2 m (ageF A1 t) → Fs (mW m) h h2 → Ev G m_Mo_someDie 61 [.ref m, .int (livN A - livN A1), .int (nI t)] [] h2 0 0 (mpostI m h (wakeF T A) (livN A - livN (wakeF T A))) := by
      intro c h2 W2 F2
      obtain ⟨Q2, K2⟩ := Q1.age1 hp
      have e5 : ageF A1 t 0 5 = A1 0 5 := by unfold ageF; split; exact up_ne (by omega); rfl
      have e55 : ∀ q, up (ageF A1 t) 0 5 (sdF (A1 0 5)) 5 q = A1 5 q := fun q => by rw [up_ne (by omega)]; unfold ageF; split; exact up_ne (by omega); rfl
      refine e_Mo_someDie_61 hl h2 _ m _ _ ⟨W2.kd, _, o_drawn hl hm W2 (n := 100) (by decide), fun o3 h3 z => Or.inl ?_⟩
      obtain ⟨z1, W3, F3⟩ := z
      rw [e5] at W3 z1
      have Q3 := Q2.up0 (j := 5) (by omega) (sdF (A1 0 5))
      have K3 : Kp A1 (up (ageF A1 t) 0 5 (sdF (A1 0 5))) := K2.tr (Kp.up (by omega))
      have hp3 : t < nP (up (ageF A1 t) 0 5 (sdF (A1 0 5))) := by rw [K3.1]; exact hp
      have L3 := (L.kw F2).kw F3
      have e3 : livN (up (ageF A1 t) 0 5 (sdF (A1 0 5))) = livN A1 := livN_congr K3.1 (fun q _ => e55 q)
      refine ⟨_, z1, W3.kd, _, o_failsOf hl W3 Q3 L3 hp3, fun o4 h4 y => Or.inl ?_⟩
      obtain ⟨y1, W4, F4⟩ := y
      refine ⟨_, y1, fun f => ⟨W4.kd, _, o_dies hl hm W4 Q3 hp3, fun o5 h5 x => Or.inl ?_⟩, fun f => ?_⟩
      · obtain ⟨x1, W5, F5⟩ := x
        refine ⟨x1, ?_⟩
        have ew : wakeS T t A1 = dieF (up (ageF A1 t) 0 5 (sdF (A1 0 5))) t := by unfold wakeS; rw [if_pos c, if_neg (Int32.not_le.mpr f)]
        have en : livN A - livN A1 + 1 = livN A - livN (wakeS T t A1) := by
          rw [ew]
          have := livN_die Q3 hp3 (by rw [e55]; exact c)
          rw [e3] at this
          rw [this]
          grind
        rw [nI_1, en]
        exact ih h5 (by rw [ew]; exact W5) (((F2.tr F3).tr F4).tr F5)
      · have ew : wakeS T t A1 = up (ageF A1 t) 0 5 (sdF (A1 0 5)) := by unfold wakeS; rw [if_pos c, if_pos (Int32.not_lt.mp f)]
        rw [ew, e3] at ih
        rw [nI_1]
        exact ih h4 W4 ((F2.tr F3).tr F4)
    refine e_Mo_someDie_4 hl h1 _ m _ _ ⟨W1.kd, _, o_people hl W1, fun c => absurd c (Q1.1.in_P hp), fun _ => ⟨W1.kd, _, o_lives hl W1 hp7, fun c => ⟨_, W1.r1, _, W1.at (k := 0) (j := 2) (n := 6) (d0 (by decide)) rfl, by decide, fun d => ?_, fun d => ⟨_, W1.r1, _, o_pAt hl t 0, W1.kd, _, o_of hl W1 hp7 (f := 0) (by decide), W1.wr hm (by omega), ?_⟩⟩, fun c => ?_⟩⟩
    · exact main (ite1 c) h1 (by unfold ageF; rw [if_neg (show ¬ rm (A1 0 2) 10 = 9 from d)]; exact W1) F1
    · rw [nI_clamp (by omega), imin_comm]
      refine main (ite1 c) _ ?_ (F1.set (mW_at (by omega) (by omega)))
      unfold ageF; rw [if_pos (show rm (A1 0 2) 10 = 9 from d)]
      exact W1.set (k := 1 + 0) (j := t) (dP (by omega) hp7) (adP (by omega)) _
    · have ew : wakeS T t A1 = A1 := by unfold wakeS; rw [if_neg (ite0 c)]
      rw [ew] at ih
      rw [nI_1]; exact ih h1 W1 F1
theorem W_night (W : WldAt h m A) : WldAt (hset h (m + 1) 6 (.int (imin 9999 (A 0 2 + 1)))) m (nightF A) := by
  rw [imin_comm]
  exact W.set (k := 0) (j := 2) (n := 6) (d0 (by decide)) rfl _
theorem o_night (hl : G.1.stackTraces = false) (hm : G.n0 ≤ m) (W : WldAt h m A) (F : Wf A) (L : MLawOk G h m T) : EvM G m_Mo_oneNight [.ref m, .int 0] h (mpostI m h (nightF (wakeF T (feelF T (letF T A)))) (livN A - livN (wakeF T (feelF T (letF T A))))) := by
  refine en_Mo_oneNight h _ m _ (e_Mo_oneNight_0 hl h _ m _ ⟨W.kd, _, o_letGo hl hm W F L, fun o1 h1 z => Or.inl ?_⟩)
  obtain ⟨z1, W1, F1⟩ := z
  obtain ⟨Q1, K1⟩ := F.let' T _ (Nat.le_refl _)
  have L1 := L.kw F1
  refine ⟨z1, fun c => absurd rfl c, fun _ => ⟨W1.kd, _, o_feel hl hm W1 Q1 L1, fun o2 h2 z => Or.inl ?_⟩⟩
  obtain ⟨z2, W2, F2⟩ := z
  obtain ⟨Q2, K2⟩ := Q1.feel' T _ (Nat.le_refl _)
  have L2 := L1.kw F2
  refine ⟨z2, W2.kd, _, o_someDie hl hm W2 Q2 L2, fun o3 h3 z => Or.inl ?_⟩
  obtain ⟨z3, W3, F3⟩ := z
  refine ⟨_, z3, _, W3.r1, _, W3.r1, _, W3.at (k := 0) (j := 2) (n := 6) (d0 (by decide)) rfl, W3.wr hm (n := 6) (by decide), e_Mo_oneNight_41 hl _ _ _ ⟨?_, W_night W3, ((F1.tr F2).tr F3).set (mW_at (by decide) (by decide))⟩⟩
  have Q1' : Wf (letF T A) := Q1
  rw [livN_feel Q1' T, livN_let F T]
theorem o_calmNight (hl : G.1.stackTraces = false) (hm : G.n0 ≤ m) (W : WldAt h m A) (F : Wf A) (L : MLawOk G h m T) : EvM G m_Mo_oneNight [.ref m, .int 1] h (mpostI m h (nightF (letF T A)) 0) := by
  refine en_Mo_oneNight h _ m _ (e_Mo_oneNight_0 hl h _ m _ ⟨W.kd, _, o_letGo hl hm W F L, fun o1 h1 z => Or.inl ?_⟩)
  obtain ⟨z1, W1, F1⟩ := z
  exact ⟨z1, fun _ => ⟨_, W1.r1, _, W1.r1, _, W1.at (k := 0) (j := 2) (n := 6) (d0 (by decide)) rfl, W1.wr hm (n := 6) (by decide), e_Mo_oneNight_41 hl _ _ _ ⟨rfl, W_night W1, F1.set (mW_at (by decide) (by decide))⟩⟩, fun c => absurd c (by decide)⟩
theorem o_goesOn (hl : G.1.stackTraces = false) (hm : G.n0 ≤ m) (W : WldAt h m A) (F : Wf A) (L : MLawOk G h m T) {n : Nat} (hn : n < 2 ^ 31) : EvM G m_Mo_goesOn [.ref m, .int (nI n), .int 0] h (mpostI m h (passF T n A) (livN A - livN (passF T n A))) := by
  refine en_Mo_goesOn h _ m _ _ (e_Mo_goesOn_0 hl h _ m _ _ ?_)
  have start : (0 : Int32) = livN A - livN (passF T 0 A) := by show (0 : Int32) = livN A - livN A; rw [Int32.sub_self]
  suffices hh : Ev G m_Mo_goesOn 5 [.ref m, .int (nI n), .int 0, .int (livN A - livN (passF T 0 A)), .int (nI 0)] [] h 0 0 (mpostI m h (passF T n A) (livN A - livN (passF T n A))) by rw [← start] at hh; exact hh
  refine for_up (Q := fun t => ∀ h1, WldAt h1 m (passF T t A) → Fs (mW m) h h1 → Ev G m_Mo_goesOn 5 [.ref m, .int (nI n), .int 0, .int (livN A - livN (passF T t A)), .int (nI t)] [] h1 0 0 _) (n := n) (fun h1 W1 F1 => ?_) (fun t ht ih h1 W1 F1 => ?_) 0 (Nat.zero_le _) h W Fs.rf
  · exact e_Mo_goesOn_5 hl h1 _ m _ _ _ _ ⟨fun _ => ⟨rfl, W1, F1⟩, fun c => absurd (Int32.le_refl _) c⟩
  · obtain ⟨Q1, K1⟩ := F.pass T t
    refine e_Mo_goesOn_5 hl h1 _ m _ _ _ _ ⟨fun c => absurd c (nI_ge ht hn), fun _ => ⟨W1.kd, _, o_night hl hm W1 Q1 (L.kw F1), fun o2 h2 z => Or.inl ?_⟩⟩
    obtain ⟨z1, W2, F2⟩ := z
    refine ⟨_, z1, ?_⟩
    have e : livN A - livN (passF T t A) + (livN (passF T t A) - livN (wakeF T (feelF T (letF T (passF T t A))))) = livN A - livN (passF T (t + 1) A) := by
      have : livN (passF T (t + 1) A) = livN (wakeF T (feelF T (letF T (passF T t A)))) := by rw [passF]; exact livN_night
      rw [this]
      grind
    rw [nI_1, e]
    exact ih h2 W2 (F1.tr F2)
theorem o_goesCalm (hl : G.1.stackTraces = false) (hm : G.n0 ≤ m) (W : WldAt h m A) (F : Wf A) (L : MLawOk G h m T) {n : Nat} (hn : n < 2 ^ 31) : EvM G m_Mo_goesOn [.ref m, .int (nI n), .int 1] h (mpostI m h (calmF T n A) 0) := by
  refine en_Mo_goesOn h _ m _ _ (e_Mo_goesOn_0 hl h _ m _ _ ?_)
  refine for_up (Q := fun t => ∀ h1, WldAt h1 m (calmF T t A) → Fs (mW m) h h1 → Ev G m_Mo_goesOn 5 [.ref m, .int (nI n), .int 1, .int 0, .int (nI t)] [] h1 0 0 _) (n := n) (fun h1 W1 F1 => ?_) (fun t ht ih h1 W1 F1 => ?_) 0 (Nat.zero_le _) h W Fs.rf
  · exact e_Mo_goesOn_5 hl h1 _ m _ _ _ _ ⟨fun _ => ⟨rfl, W1, F1⟩, fun c => absurd (Int32.le_refl _) c⟩
  · obtain ⟨Q1, K1⟩ := F.calm T t
    refine e_Mo_goesOn_5 hl h1 _ m _ _ _ _ ⟨fun c => absurd c (nI_ge ht hn), fun _ => ⟨W1.kd, _, o_calmNight hl hm W1 Q1 (L.kw F1), fun o2 h2 z => Or.inl ?_⟩⟩
    obtain ⟨z1, W2, F2⟩ := z
    refine ⟨_, z1, ?_⟩
    rw [nI_1, Int32.add_zero]
    exact ih h2 W2 (F1.tr F2)
end MO5
