/-! ===== the reference's answers ===== -/
theorem mans0 {m : Nat} {h h' : Hp} {A : Vs} {c v : Int32} {o : Res} (x : Fs (mW m) (hset h m 0 (.int c)) h') (W : WldAt h' m A) (e : o = .inl (some (.int v))) : mans m h A (c, v) o h' :=
  ⟨e, W, by rw [x.2.2 m 0 (fun z => by unfold mW at z; omega)]; exact hs_eq, (Fs.rf.set (Or.inl ⟨rfl, rfl⟩)).tr (x.mono (fun _ _ => mW_U))⟩
theorem mans1 {m : Nat} {h h1 : Hp} {A : Vs} {c v : Int32} {o : Res} (x : Fs (mU m) h h1) (W : WldAt h1 m A) (e : o = .inl (some (.int v))) : mans m h A (c, v) o (hset h1 m 0 (.int c)) :=
  ⟨e, W.thr c, hs_eq, x.set (Or.inl ⟨rfl, rfl⟩)⟩
theorem fU0 {m : Nat} {h : Hp} {c : Int32} : Fs (mU m) h (hset h m 0 (.int c)) := Fs.rf.set (Or.inl ⟨rfl, rfl⟩)
def rndF (A : Vs) : Int32 := lp (fun p b => b ||| (lineF A p &&& sh1 p)) (nP A) 0
def escF (A : Vs) : Int32 := lp (fun p b => if A 5 p = 1 ∧ succF A p = -1 then b ||| sh1 p else b) (nP A) 0
def idlF (A : Vs) : Int32 := lp (fun p b => if A 5 p = 1 ∧ holdF A (nI p) = -1 then b ||| sh1 p else b) (nP A) 0
def twnS (A : Vs) (t n : Nat) (k : Int32) : Int32 := lp (fun u k => if A 6 t = A 6 u ∧ A 7 t = A 7 u then k + 1 else k) n k
def twnF (A : Vs) : Int32 := lp (fun t k => twnS A t t k) (nT A) 0
theorem watG_low {A : Vs} {s : Int32} : ∀ d p, watG A s d p = 0 ∨ watG A s d p = 1
  | 0, _ => Or.inr rfl
  | d + 1, p => by
    unfold watG
    have := watG_low (A := A) (s := s) d (p + 1)
    repeat' split
    all_goals first | exact this | exact Or.inl rfl
/-- the first of the lightest: upwards and downwards -/
theorem fold_same {C : Nat → Prop} [DecidablePred C] {w : Nat → Nat} (n : Nat) (hn : C n) (hx : ∀ j, j < n → C j → w j < w n) :
    lp (fun i b => if C i ∧ w i < w b then i else b) n n = lp (fun i b => if C (n - i) ∧ w (n - i) ≤ w b then n - i else b) (n + 1) n := by
  have up : ∀ k, k ≤ n → (C (lp (fun i b => if C i ∧ w i < w b then i else b) k n) ∧ (lp (fun i b => if C i ∧ w i < w b then i else b) k n < k ∨ lp (fun i b => if C i ∧ w i < w b then i else b) k n = n) ∧ w (lp (fun i b => if C i ∧ w i < w b then i else b) k n) ≤ w n ∧ (∀ j, j < k → C j → w (lp (fun i b => if C i ∧ w i < w b then i else b) k n) ≤ w j) ∧ (∀ j, j < k → C j → w j = w (lp (fun i b => if C i ∧ w i < w b then i else b) k n) → lp (fun i b => if C i ∧ w i < w b then i else b) k n ≤ j ∨ (lp (fun i b => if C i ∧ w i < w b then i else b) k n = n ∧ w j = w n))) ∧ (lp (fun i b => if C i ∧ w i < w b then i else b) k n = n → ∀ j, j < k → C j → ¬ w j < w n) := by
    intro k
    induction k with
    | zero => intro _; exact ⟨⟨hn, Or.inr rfl, Nat.le_refl _, fun j hj => absurd hj (Nat.not_lt_zero _), fun j hj => absurd hj (Nat.not_lt_zero _)⟩, fun _ j hj => absurd hj (Nat.not_lt_zero _)⟩
    | succ k ih =>
      intro hk
      obtain ⟨⟨h1, h2, h3, h4, h5⟩, h6⟩ := ih (by omega)
      simp only [lp]
      generalize lp (fun i b => if C i ∧ w i < w b then i else b) k n = u at *
      by_cases c : C k ∧ w k < w u
      · rw [if_pos c]
        refine ⟨⟨c.1, Or.inl (by omega), by omega, fun j hj hC => ?_, fun j hj hC e => ?_⟩, fun e => by omega⟩
        · by_cases z : j = k
          · rw [z]; exact Nat.le_refl _
          · have := h4 j (by omega) hC; omega
        · by_cases z : j = k
          · left; omega
          · have := h4 j (by omega) hC; omega
      · rw [if_neg c]
        refine ⟨⟨h1, by rcases h2 with q | q; exact Or.inl (by omega); exact Or.inr q, h3, fun j hj hC => ?_, fun j hj hC e => ?_⟩, fun e j hj hC => ?_⟩
        · by_cases z : j = k
          · subst z
            rcases Nat.lt_or_ge (w j) (w u) with q | q
            · exact absurd ⟨hC, q⟩ c
            · exact q
          · exact h4 j (by omega) hC
        · by_cases z : j = k
          · subst z
            rcases h2 with q | q
            · left; omega
            · right; exact ⟨q, by rw [e, q]⟩
          · exact h5 j (by omega) hC e
        · by_cases z : j = k
          · subst z; exact fun q => c ⟨hC, by rw [e]; exact q⟩
          · exact h6 e j (by omega) hC
  have dn : ∀ k, k ≤ n + 1 → C (lp (fun i b => if C (n - i) ∧ w (n - i) ≤ w b then n - i else b) k n) ∧ lp (fun i b => if C (n - i) ∧ w (n - i) ≤ w b then n - i else b) k n ≤ n ∧ (∀ j, n < j + k → j ≤ n → C j → w (lp (fun i b => if C (n - i) ∧ w (n - i) ≤ w b then n - i else b) k n) ≤ w j ∧ (w j = w (lp (fun i b => if C (n - i) ∧ w (n - i) ≤ w b then n - i else b) k n) → lp (fun i b => if C (n - i) ∧ w (n - i) ≤ w b then n - i else b) k n ≤ j)) ∧ n ≤ lp (fun i b => if C (n - i) ∧ w (n - i) ≤ w b then n - i else b) k n + k := by
    intro k
    induction k with
    | zero => intro _; exact ⟨hn, Nat.le_refl _, fun j h1 h2 => by omega, Nat.le_refl _⟩
    | succ k ih =>
      intro hk
      obtain ⟨h1, h2, h3, h4⟩ := ih (by omega)
      simp only [lp]
      generalize lp (fun i b => if C (n - i) ∧ w (n - i) ≤ w b then n - i else b) k n = u at *
      by_cases c : C (n - k) ∧ w (n - k) ≤ w u
      · rw [if_pos c]
        refine ⟨c.1, by omega, fun j a b hC => ?_, by omega⟩
        by_cases z : j = n - k
        · subst z; exact ⟨Nat.le_refl _, fun _ => Nat.le_refl _⟩
        · obtain ⟨q1, q2⟩ := h3 j (by omega) b hC
          exact ⟨by omega, fun e => by omega⟩
      · rw [if_neg c]
        refine ⟨h1, h2, fun j a b hC => ?_, by omega⟩
        by_cases z : j = n - k
        · subst z
          rcases Nat.lt_or_ge (w u) (w (n - k)) with q | q
          · exact ⟨by omega, fun e => by omega⟩
          · exact absurd ⟨hC, q⟩ c
        · exact h3 j (by omega) b hC
  obtain ⟨⟨a1, a2, a3, a4, a5⟩, a6⟩ := up n (Nat.le_refl _)
  obtain ⟨b1, b2, b3, b4⟩ := dn (n + 1) (Nat.le_refl _)
  generalize lp (fun i b => if C i ∧ w i < w b then i else b) n n = u at *
  generalize lp (fun i b => if C (n - i) ∧ w (n - i) ≤ w b then n - i else b) (n + 1) n = d at *
  have hun : u ≤ n := by omega
  obtain ⟨c1, c2⟩ := b3 u (by omega) hun a1
  have hle : w u ≤ w d := by
    rcases Nat.lt_or_ge d n with q | q
    · exact a4 d q b1
    · have : d = n := by omega
      rw [this]; exact a3
  have e : w u = w d := by omega
  have hdu := c2 e
  rcases Nat.lt_or_ge d n with q | q
  · rcases a5 d q b1 e.symm with z | ⟨z, z2⟩
    · omega
    · exact absurd (hx d q b1) (a6 z d q b1)
  · omega
theorem cnt_sub {j s : Nat} (h : ∀ i, j.testBit i = true → s.testBit i = true) : ∀ d t, cntN j d t ≤ cntN s d t
  | 0, _ => Nat.le_refl _
  | d + 1, t => by
    unfold cntN
    have := cnt_sub h d (t + 1)
    by_cases c : j.testBit t = true
    · rw [if_pos c, if_pos (h t c)]; omega
    · rw [if_neg c]; omega
theorem cnt_lt {j s i : Nat} (h : ∀ i, j.testBit i = true → s.testBit i = true) (hi : s.testBit i = true) (hj : ¬ j.testBit i = true) : ∀ d t, t ≤ i → i < t + d → cntN j d t < cntN s d t
  | 0, _, _, _ => by omega
  | d + 1, t, h1, h2 => by
    unfold cntN
    by_cases z : i = t
    · subst z
      have := cnt_sub h d (i + 1)
      rw [if_neg hj, if_pos hi]; omega
    · have := cnt_lt h hi hj d (t + 1) (by omega) (by omega)
      by_cases c : j.testBit t = true
      · rw [if_pos c, if_pos (h t c)]; omega
      · rw [if_neg c]; omega
theorem pc_lt {j s : Nat} (hj : j < s) (hs : s < 128) (h : nI j &&& (nI s ^^^ -1) = 0) : pcN j < pcN s := by
  have sub : ∀ i, j.testBit i = true → s.testBit i = true := fun i hi => by
    have hi7 : i < 7 := by
      rcases Nat.lt_or_ge i 7 with q | q
      · exact q
      · have := Nat.testBit_lt_two_pow (x := j) (i := i) (Nat.lt_of_lt_of_le (by omega : j < 2 ^ 7) (Nat.pow_le_pow_right (by decide) q))
        rw [this] at hi; exact absurd hi (by decide)
    have := congrArg (fun x => bt x i) h
    simp only [b_and, bt_inv (by omega : i < 32), bt_nI (by omega : i < 32), b_0, hi] at this
    simpa using this
  have ne : ∃ i, s.testBit i = true ∧ ¬ j.testBit i = true := by
    by_cases q : ∃ i, s.testBit i = true ∧ ¬ j.testBit i = true
    · exact q
    · exfalso
      have : j = s := Nat.eq_of_testBit_eq (fun i => Bool.eq_iff_iff.mpr ⟨sub i, fun z => by
        by_cases y : j.testBit i = true
        · exact y
        · exact absurd ⟨i, z, y⟩ q⟩)
      omega
  obtain ⟨i, i1, i2⟩ := ne
  have hi7 : i < 7 := by
    rcases Nat.lt_or_ge i 7 with q | q
    · exact q
    · have := Nat.testBit_lt_two_pow (x := s) (i := i) (Nat.lt_of_lt_of_le (by omega : s < 2 ^ 7) (Nat.pow_le_pow_right (by decide) q))
      rw [this] at i1; exact absurd i1 (by decide)
  exact cnt_lt sub i1 i2 13 0 (by omega) (by omega)
section MO7
variable {G : Gx} {h h' : Hp} {m : Nat} {A : Vs} {T : Tt}
theorem o_watched (hl : G.1.stackTraces = false) (W : WldAt h m A) (F : Wf A) (s : Int32) : EvI G m_Mo_areWatched [.ref m, .int s] h (watF A s) := by
  have B := F.1
  refine en_Mo_areWatched h _ m s (e_Mo_areWatched_0 hl h _ m s ?_)
  have stop : ∀ p, p ≤ nP A → Ev G m_Mo_areWatched 4 [.ref m, .int s, .int 0, .int (nI p)] [] h 0 0 (fun o h' => o = .inl (some (.int 0)) ∧ h' = h) := fun p _ =>
    e_Mo_areWatched_4 hl h _ m _ _ _ ⟨W.kd, _, o_people hl W, fun _ => bret_of (Or.inl rfl) ⟨rfl, rfl⟩, fun _ => ⟨fun _ => bret_of (Or.inl rfl) ⟨rfl, rfl⟩, fun c => absurd rfl c⟩⟩
  suffices hh : ∀ d p, p + d = nP A → Ev G m_Mo_areWatched 4 [.ref m, .int s, .int 1, .int (nI p)] [] h 0 0 (fun o h' => o = .inl (some (.int (watG A s d p))) ∧ h' = h) from hh (nP A) 0 (Nat.zero_add _)
  intro d
  induction d with
  | zero =>
    intro p hp
    exact e_Mo_areWatched_4 hl h _ m _ _ _ ⟨W.kd, _, o_people hl W, fun _ => bret_of (Or.inr rfl) ⟨rfl, rfl⟩, fun c => absurd (by rw [B.1, ← hp]; exact Int32.le_refl _) c⟩
  | succ d ih =>
    intro p hp
    have hpn : p < nP A := by omega
    have hp7 := B.P7 hpn
    refine e_Mo_areWatched_4 hl h _ m _ _ _ ⟨W.kd, _, o_people hl W, fun c => absurd c (B.in_P hpn), fun _ => ⟨fun c => absurd c (by decide), fun _ => ⟨W.kd, _, o_lives hl W hp7, fun c => ?_, fun c => ⟨_, o_has hl _ _, fun e => ?_, fun e => ⟨W.kd, _, o_succ hl W F hpn, fun f => ?_, fun f => ⟨W.kd, _, o_succ hl W F hpn, _, o_has hl _ _, fun g => ?_, fun g => ?_⟩⟩⟩⟩⟩⟩
    · rw [nI_1, watG, if_neg (ite0 c)]; exact ih (p + 1) (by omega)
    · rw [nI_1, watG, if_pos (ite1 c), if_pos (has1 e)]; exact ih (p + 1) (by omega)
    · rw [nI_1, watG, if_pos (ite1 c), if_neg (by rw [has0 e (by omega)]; decide), if_pos f]; exact stop (p + 1) (by omega)
    · rcases succF_spec F hpn with q | ⟨q, hq, eq, -, -⟩
      · exact absurd q f
      · have hq7 := B.P7 hq
        rw [eq] at g
        rw [nI_1, watG, if_pos (ite1 c), if_neg (by rw [has0 e (by omega)]; decide), if_neg f, if_neg (by rw [eq, nI_clamp (by omega), has0 g (by omega)]; decide)]; exact stop (p + 1) (by omega)
    · rcases succF_spec F hpn with q | ⟨q, hq, eq, -, -⟩
      · exact absurd q f
      · have hq7 := B.P7 hq
        rw [eq] at g
        rw [nI_1, watG, if_pos (ite1 c), if_neg (by rw [has0 e (by omega)]; decide), if_neg f, if_pos (by rw [eq, nI_clamp (by omega)]; exact has1 g)]; exact ih (p + 1) (by omega)
/-- all are watched by all -/
theorem watG_all {A : Vs} (B : Bd A) : ∀ d p, p + d ≤ nP A → watG A (flagF A 5) d p = 1
  | 0, _, _ => rfl
  | d + 1, p, h => by
    unfold watG
    have ih := watG_all B d (p + 1) (by omega)
    by_cases c : A 5 p = 1
    · rw [if_pos c, if_pos, ih]
      have := flag_bit (A := A) (f := 5) B (q := p) (by have := B.2.1; omega)
      rw [if_pos (by omega), if_pos c] at this
      exact this
    · rw [if_neg c, ih]
theorem sub0 (s : Nat) (hs : s < 128) : nI s &&& (nI s ^^^ -1) = 0 := b_ext (fun i hi => by rw [b_and, bt_inv hi, b_0]; cases bt (nI s) i <;> rfl)
theorem bcI {a b : Nat} (ha : a < 128) (hb : b < 128) : (bcF (nI a) < bcF (nI b) ↔ pcN a < pcN b) := by
  have h1 := pcN_le a (by omega)
  have h2 := pcN_le b (by omega)
  rw [bcF_small a (by omega), bcF_small b (by omega), nI_ltI (by omega) (by omega)]
theorem wch_up {A : Vs} {s : Nat} (hs : s < 128) (es : flagF A 5 = nI s) : ∀ k, k ≤ s → lp (wchS A) k (nI s) = nI (lp (fun i b => if (nI i &&& (nI s ^^^ -1) = 0 ∧ ¬ watF A (nI i) = 0) ∧ pcN i < pcN b then i else b) k s) ∧ lp (fun i b => if (nI i &&& (nI s ^^^ -1) = 0 ∧ ¬ watF A (nI i) = 0) ∧ pcN i < pcN b then i else b) k s < 128
  | 0, _ => ⟨rfl, hs⟩
  | k + 1, hk => by
    obtain ⟨e, hlt⟩ := wch_up hs es k (by omega)
    simp only [lp]
    rw [e]
    generalize lp (fun i b => if (nI i &&& (nI s ^^^ -1) = 0 ∧ ¬ watF A (nI i) = 0) ∧ pcN i < pcN b then i else b) k s = u at *
    unfold wchS
    rw [es]
    by_cases c : (nI k &&& (nI s ^^^ -1) = 0 ∧ ¬ watF A (nI k) = 0) ∧ pcN k < pcN u
    · rw [if_pos c, if_pos ⟨c.1.1, (bcI (by omega) hlt).mpr c.2, c.1.2⟩]; exact ⟨rfl, by omega⟩
    · rw [if_neg c, if_neg (fun z => c ⟨⟨z.1, z.2.2⟩, (bcI (by omega) hlt).mp z.2.1⟩)]; exact ⟨rfl, hlt⟩
theorem o_watch (hl : G.1.stackTraces = false) (hm : G.n0 ≤ m) (W : WldAt h m A) (F : Wf A) : EvM G m_Mo_watch [.ref m] h (mans m h A (0, wchF A)) := by
  obtain ⟨s, hs, es⟩ := flag_small F.1 5
  have hcl : (flagF A 5).toNatClampNeg = s := by rw [es]; exact nI_clamp (by omega)
  have W0 := W.thr 0
  refine en_Mo_watch h _ m (e_Mo_watch_0 hl h _ m ⟨⟨hm, W.kd⟩, e_Mo_watch_5 hl _ _ m ⟨W0.kd, _, o_allLiving hl W0 F.1, ?_⟩⟩)
  have key : wchF A = nI (lp (fun i b => if (nI (s - i) &&& (nI s ^^^ -1) = 0 ∧ ¬ watF A (nI (s - i)) = 0) ∧ pcN (s - i) ≤ pcN b then s - i else b) (s + 1) s) := by
    unfold wchF
    rw [hcl, es, (wch_up hs es s (Nat.le_refl _)).1, fold_same (C := fun i => nI i &&& (nI s ^^^ -1) = 0 ∧ ¬ watF A (nI i) = 0) (w := pcN) s ⟨sub0 s hs, by
      rw [← es]; unfold watF; rw [watG_all F.1 _ _ (by omega)]; decide⟩ (fun j hj hc => pc_lt hj hs hc.1)]
  rw [key, es]
  have hh : ∀ d i, i + d = s + 1 → lp (fun i b => if (nI (s - i) &&& (nI s ^^^ -1) = 0 ∧ ¬ watF A (nI (s - i)) = 0) ∧ pcN (s - i) ≤ pcN b then s - i else b) i s < 128 → Ev G m_Mo_watch 14 [.ref m, .int (nI s), .int (nI (lp (fun i b => if (nI (s - i) &&& (nI s ^^^ -1) = 0 ∧ ¬ watF A (nI (s - i)) = 0) ∧ pcN (s - i) ≤ pcN b then s - i else b) i s)), .int (nI d - 1)] [] (hset h m 0 (.int 0)) 0 0 (mans m h A (0, nI (lp (fun i b => if (nI (s - i) &&& (nI s ^^^ -1) = 0 ∧ ¬ watF A (nI (s - i)) = 0) ∧ pcN (s - i) ≤ pcN b then s - i else b) (s + 1) s))) := by
      intro d
      induction d with
      | zero =>
        intro i hi hlt
        have : i = s + 1 := by omega
        subst this
        exact e_Mo_watch_14 hl _ _ m _ _ _ ⟨fun _ => mans0 Fs.rf W0 rfl, fun c => absurd (by decide) c⟩
      | succ d ih =>
        intro i hi hlt
        have hsi : s - i = d := by omega
        have ih := ih (i + 1) (by omega)
        simp only [lp] at ih
        generalize lp (fun i b => if (nI (s - i) &&& (nI s ^^^ -1) = 0 ∧ ¬ watF A (nI (s - i)) = 0) ∧ pcN (s - i) ≤ pcN b then s - i else b) i s = u at *
        rw [hsi] at ih
        rw [nI_pred]
        have m1 : nI d + -1 = nI d - 1 := by grind
        refine e_Mo_watch_14 hl _ _ m _ _ _ ⟨fun c => absurd c (nI_pos (by omega)), fun _ => ⟨fun c => ?_, fun c => ⟨_, j_bitCount hl _, _, j_bitCount hl _, fun e => ?_, fun e => ⟨W0.kd, _, o_watched hl W0 F _, fun f => ?_, fun f => ?_⟩⟩⟩⟩
        · rw [m1]; rw [if_neg (fun z => c z.1.1)] at ih; exact ih hlt
        · rw [m1]
          have := (bcI hlt (by omega : d < 128)).mp e
          rw [if_neg (fun z => by omega)] at ih; exact ih hlt
        · rw [m1]; rw [if_neg (fun z => z.1.2 f)] at ih; exact ih hlt
        · rw [m1]
          have : ¬ pcN u < pcN d := fun z => e ((bcI hlt (by omega : d < 128)).mpr z)
          rw [if_pos ⟨⟨c, f⟩, by omega⟩] at ih; exact ih (by omega)
  have := hh (s + 1) 0 (by omega) hs
  rw [nI_pred] at this
  exact this
end MO7
