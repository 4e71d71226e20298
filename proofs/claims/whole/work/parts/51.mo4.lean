/-! ===== the reference: the nth of a set, feeling, dying ===== -/
def kr (s : Nat) : Nat := if s = 0 then 0 else s &&& (s - 1)
def krI : Nat → Nat → Nat
  | 0, s => s
  | k + 1, s => krI k (kr s)
def tz (s : Nat) : Nat := nthN s 10 0 0
def krOk (s : Nat) : Bool := Nat.beq s 0 || (Nat.ble (kr s) 1023 && Nat.beq (pcN (kr s) + 1) (pcN s) && Nat.ble (tz s) 9 && Nat.beq ((4294967296 - (s + 1)) &&& (s - 1)) (2 ^ tz s - 1) && (List.range 10).all (fun k => Nat.beq (nthN s 10 0 (k + 1)) (nthN (kr s) 10 0 k)))
theorem krOk_0 : (List.range 256).all (fun i => krOk (0 + i)) = true := by decide +kernel
theorem krOk_1 : (List.range 256).all (fun i => krOk (256 + i)) = true := by decide +kernel
theorem krOk_2 : (List.range 256).all (fun i => krOk (512 + i)) = true := by decide +kernel
theorem krOk_3 : (List.range 256).all (fun i => krOk (768 + i)) = true := by decide +kernel
theorem krOk_all {s : Nat} (hs : s < 1024) : krOk s = true := by
  have key : ∀ k, (List.range 256).all (fun i => krOk (256 * k + i)) = true → s / 256 = k → krOk s = true := fun k hk e => by
    have := List.all_eq_true.mp hk (s % 256) (List.mem_range.mpr (Nat.mod_lt _ (by decide)))
    rw [show 256 * k + s % 256 = s by omega] at this
    exact this
  have hc : s / 256 = 0 ∨ s / 256 = 1 ∨ s / 256 = 2 ∨ s / 256 = 3 := by omega
  rcases hc with h | h | h | h
  · exact key 0 krOk_0 h
  · exact key 1 krOk_1 h
  · exact key 2 krOk_2 h
  · exact key 3 krOk_3 h
theorem kr_spec {s : Nat} (hs : s < 1024) (h0 : s ≠ 0) : kr s < 1024 ∧ pcN (kr s) + 1 = pcN s ∧ tz s < 10 ∧ (4294967296 - (s + 1)) &&& (s - 1) = 2 ^ tz s - 1 ∧ ∀ k, k < 10 → nthN s 10 0 (k + 1) = nthN (kr s) 10 0 k := by
  have := krOk_all hs
  unfold krOk at this
  simp only [Bool.and_eq_true, Bool.or_eq_true, Nat.beq_eq, Nat.ble_eq, List.all_eq_true, List.mem_range] at this
  rcases this with q | ⟨⟨⟨⟨q1, q2⟩, q3⟩, q4⟩, q5⟩
  · exact absurd q h0
  · exact ⟨by omega, q2, by omega, q4, q5⟩
theorem kr_nI (s : Nat) : nI s &&& (nI s - 1) = nI (kr s) := by
  unfold kr
  by_cases h : s = 0
  · rw [if_pos h, h]; decide
  · rw [if_neg h, show (1 : Int32) = nI 1 from rfl, pk_sub (by omega), and_nI]
theorem not_nI {s : Nat} (hs : s < 2 ^ 32) : nI s ^^^ -1 = nI (4294967296 - (s + 1)) := b_ext (fun i hi => by
  rw [bt_inv hi, bt_nI hi, bt_nI hi, show (4294967296 : Nat) = 2 ^ 32 from rfl, Nat.testBit_two_pow_sub_succ hs]
  simp [hi])
theorem nthN_more {s : Nat} : ∀ d t k e, k < cntN s d t → nthN s (d + e) t k = nthN s d t k
  | 0, _, _, _, h => absurd h (Nat.not_lt_zero _)
  | d + 1, t, k, e, h => by
    rw [show d + 1 + e = (d + e) + 1 by omega]
    unfold nthN
    unfold cntN at h
    by_cases c : s.testBit t = true
    · rw [if_pos c] at h
      rw [if_pos c, if_pos c]
      by_cases c0 : k = 0
      · rw [if_pos c0, if_pos c0]
      · rw [if_neg c0, if_neg c0]; exact nthN_more (s := s) d (t + 1) (k - 1) e (by omega)
    · rw [if_neg c] at h
      rw [if_neg c, if_neg c]; exact nthN_more (s := s) d (t + 1) k e (by omega)
theorem nthN_10 {s n k : Nat} (hn : n ≤ 10) (hs : s < 2 ^ n) (hk : k < pcN s) : nthN s 10 0 k = nthN s n 0 k := by
  rw [pcN_cnt (by omega) hs] at hk
  have := nthN_more n 0 k (10 - n) hk
  rw [show n + (10 - n) = 10 by omega] at this
  exact this
theorem kr_nth : ∀ k s, s < 1024 → k < pcN s → krI k s < 1024 ∧ krI k s ≠ 0 ∧ nthN s 10 0 k = tz (krI k s)
  | 0, s, hs, hk => ⟨hs, fun z => by rw [show krI 0 s = s from rfl] at z; subst z; exact absurd hk (by decide), rfl⟩
  | k + 1, s, hs, hk => by
    have s0 : s ≠ 0 := fun z => by subst z; rw [show pcN 0 = 0 by decide] at hk; omega
    obtain ⟨q1, q2, q3, q4, q5⟩ := kr_spec hs s0
    have h13 := pcN_le s (by omega)
    have hk10 : k < 10 := by
      have := pcN_cnt (n := 10) (by decide) (by omega : s < 2 ^ 10)
      have hc : ∀ d t, cntN s d t ≤ d := fun d => by
        induction d with
        | zero => intro t; exact Nat.le_refl _
        | succ d ih => intro t; unfold cntN; have := ih (t + 1); split <;> omega
      have := hc 10 0
      omega
    rw [q5 k hk10]
    exact kr_nth k (kr s) q1 (by omega)
section MO4
variable {G : Gx} {h h' : Hp} {m : Nat} {A : Vs} {T : Tt}
set_option maxRecDepth 100000 in
theorem j_ntz (hl : G.1.stackTraces = false) {s : Nat} (hs : s < 1024) (h0 : s ≠ 0) : EvI G m_JI_numberOfTrailingZeros [.int (nI s)] h (nI (tz s)) := by
  obtain ⟨-, -, q3, q4, -⟩ := kr_spec hs h0
  have hi : (nI s ^^^ -1) &&& (nI s - 1) = nI (2 ^ tz s - 1) := by rw [not_nI (by omega), show (1 : Int32) = nI 1 from rfl, pk_sub (by omega), and_nI, q4]
  refine en_JI_numberOfTrailingZeros h _ _ (e_JI_numberOfTrailingZeros_0 hl h _ _ ?_)
  rw [hi]
  generalize tz s = k at *
  have hk : k = 0 ∨ k = 1 ∨ k = 2 ∨ k = 3 ∨ k = 4 ∨ k = 5 ∨ k = 6 ∨ k = 7 ∨ k = 8 ∨ k = 9 := by omega
  rcases hk with rfl | rfl | rfl | rfl | rfl | rfl | rfl | rfl | rfl | rfl
  all_goals repeat' (first | (exact ⟨congrArg (fun z => Sum.inl (some (Value.int z))) (by decide), rfl⟩) | (refine ⟨fun c => absurd c (by decide), fun _ => ?_⟩) | (refine ⟨fun _ => ?_, fun c => absurd c (by decide)⟩))
theorem o_nthOf (hl : G.1.stackTraces = false) {s k : Nat} (hs : s < 1024) (hk : k < pcN s) : EvI G m_Mo_nthOf [.int (nI s), .int (nI k)] h (nI (nthN s 10 0 k)) := by
  obtain ⟨q1, q2, q3⟩ := kr_nth k s hs hk
  have h13 := pcN_le s (by omega)
  rw [q3]
  refine en_Mo_nthOf h _ _ _ (e_Mo_nthOf_0 hl h _ _ _ ?_)
  suffices hh : ∀ d i s', i + d = k → krI d s' = krI k s → Ev G m_Mo_nthOf 4 [un, .int (nI k), .int (nI s'), .int (nI i)] [] h 0 0 (fun o h' => o = .inl (some (.int (nI (tz (krI k s))))) ∧ h' = h) from hh k 0 s (Nat.zero_add _) rfl
  intro d
  induction d with
  | zero =>
    intro i s' hi e
    have e' : s' = krI k s := e
    subst e'
    exact e_Mo_nthOf_4 hl h _ _ _ _ ⟨fun _ => ⟨_, j_ntz hl q1 q2, rfl, rfl⟩, fun c => absurd (nI_le (by omega) (by omega)) c⟩
  | succ d ih =>
    intro i s' hi e
    refine e_Mo_nthOf_4 hl h _ _ _ _ ⟨fun c => absurd c (nI_ge (by omega) (by omega)), fun _ => ?_⟩
    rw [kr_nI, nI_1]
    exact ih (i + 1) (kr s') (by omega) e
theorem o_feel (hl : G.1.stackTraces = false) (hm : G.n0 ≤ m) (W : WldAt h m A) (F : Wf A) (L : MLawOk G h m T) : EvM G m_Mo_allFeel [.ref m] h (mpost m h (feelF T A)) := by
  refine en_Mo_allFeel h _ m (e_Mo_allFeel_0 hl h _ m ?_)
  refine for_up (Q := fun t => ∀ h1, WldAt h1 m (lp (feelS T) t A) → Fs (mW m) h h1 → Ev G m_Mo_allFeel 2 [.ref m, .int (nI t), un, un, un] [] h1 0 0 _) (n := nP A) (fun h1 W1 F1 => ?_) (fun t ht ih h1 W1 F1 => ?_) 0 (Nat.zero_le _) h W Fs.rf
  · obtain ⟨Q1, K1⟩ := F.feel' T (nP A) (Nat.le_refl _)
    exact e_Mo_allFeel_2 hl h1 _ m _ ⟨W1.kd, _, o_people hl W1, fun _ => ⟨rfl, W1, F1⟩, fun c => absurd (by have := Q1.1.end_P; rw [K1.1] at this; exact this) c⟩
  · obtain ⟨Q1, K1⟩ := F.feel' T t (Nat.le_of_lt ht)
    have L1 := L.kw F1
    have hp : t < nP (lp (feelS T) t A) := by rw [K1.1]; exact ht
    generalize hA : lp (feelS T) t A = A1 at *
    have ih : ∀ h1, WldAt h1 m (feelS T t A1) → Fs (mW m) h h1 → Ev G m_Mo_allFeel 2 [.ref m, .int (nI (t + 1)), un, un, un] [] h1 0 0 (mpost m h (feelF T A)) := fun h2 W2 F2 => ih h2 (by show WldAt h2 m (feelS T t (lp (feelS T) t A)); rw [hA]; exact W2) F2
    have hp7 := Q1.1.P7 hp
    refine e_Mo_allFeel_2 hl h1 _ m _ ⟨W1.kd, _, o_people hl W1, fun c => absurd c (Q1.1.in_P hp), fun _ => ⟨W1.kd, _, o_onClothOf hl W1 Q1.1 _, W1.kd, _, o_lives hl W1 hp7, fun c => ?_, fun c => ⟨W1.kd, _, o_heldBy hl W1 Q1 _, fun d => ?_, fun d => ⟨fun e => ?_, fun e => ?_⟩⟩⟩⟩
    · rw [nI_1]; exact ih h1 (by unfold feelS; rw [if_neg (ite0 c)]; exact W1) F1
    · rw [nI_1]; refine ih h1 ?_ F1
      unfold feelS; rw [if_pos (ite1 c), if_neg d]; split <;> exact W1
    · obtain ⟨s, k, u, hs, es, s0, ek, hk, eu, hu, ef, -, -⟩ := felt_spec Q1.1 (p := t) e
      have hu10 := Q1.1.T10 hu
      have h1024 := pow_le Q1.1.2.2.2
      have eb : bcF (clothF A1 (nI t)) ≠ 0 := by
        rw [es, bcF_small s (by omega)]; exact nI_ne0 (pcN_pos s (by omega) s0) (by have := pcN_le s (by omega); omega)
      refine ⟨_, j_bitCount hl _, W1.kd, _, o_drawn hl hm W1 eb, fun o2 h2 z => Or.inl ?_⟩
      obtain ⟨z1, W2, F2⟩ := z
      have Q2 := Q1.up0 (j := 5) (by omega) (sdF (A1 0 5))
      have hp2 : t < nP (up A1 0 5 (sdF (A1 0 5))) := by rw [nP_up (by omega)]; exact hp
      have L2 := L1.kw F2
      have a7 : up A1 0 5 (sdF (A1 0 5)) 7 u = A1 7 u := up_ne (by omega)
      have hcl : (feltF A1 t).toNatClampNeg = u := by rw [ef]; exact nI_clamp (by omega)
      refine ⟨_, z1, nI u, by rw [ek, es, eu, ← nthN_10 Q1.1.2.2.2 hs hk]; exact o_nthOf hl (by omega) hk, W2.kd, A1 7 u, by rw [← a7]; exact o_ofThing hl W2 hu10 (f := 1) (by decide), W2.kd, _, o_gripsOf hl W2 Q2 L2 hp2, fun o3 h3 y => Or.inl ?_⟩
      obtain ⟨y1, W3, F3⟩ := y
      refine ⟨_, y1, fun f => ⟨fun _ => ⟨fun _ => ⟨W3.kd, _, o_isTold hl hm W3 hp7 2 (nI u), fun o4 h4 x => Or.inl ?_⟩, fun g => absurd rfl g⟩, fun g => absurd rfl g⟩, fun f => ⟨fun g => absurd g (by decide), fun _ => ⟨W3.kd, _, o_lies hl hm W3 hu10 1 (nI t) (fun q => absurd q (by decide)), fun o4 h4 x => Or.inl ?_⟩⟩⟩
      · obtain ⟨x1, W4, F4⟩ := x
        refine ⟨x1, ?_⟩
        rw [nI_1]
        refine ih h4 ?_ (((F1.tr F2).tr F3).tr F4)
        unfold feelS
        rw [if_pos (ite1 c), if_neg e, if_pos d, hcl, if_pos f, ef]
        rw [up_ne (by omega), up_ne (by omega)] at W4
        exact W4
      · obtain ⟨x1, W4, F4⟩ := x
        refine ⟨x1, fun g => absurd g (by decide), fun _ => ⟨W4.kd, _, o_isTold hl hm W4 hp7 1 (nI u), fun o5 h5 y => Or.inl ?_⟩⟩
        obtain ⟨y1, W5, F5⟩ := y
        refine ⟨y1, ?_⟩
        rw [nI_1]
        refine ih h5 ?_ ((((F1.tr F2).tr F3).tr F4).tr F5)
        unfold feelS
        rw [if_pos (ite1 c), if_neg e, if_pos d, hcl, if_neg f, ef]
        rw [mvA_ne (by omega), mvA_ne (by omega), up_ne (by omega), up_ne (by omega)] at W5
        exact W5
    · rw [nI_1]; exact ih h1 (by unfold feelS; rw [if_pos (ite1 c), if_pos e]; exact W1) F1
theorem logA_up {A : Vs} {k j : Nat} {x a0 a1 a2 a3 a4 : Int32} (hk : k < 20) (h7 : ¬ (k = 0 ∧ j = 7)) : up (logA A a0 a1 a2 a3 a4) k j x = logA (up A k j x) a0 a1 a2 a3 a4 := by
  funext k' j'
  by_cases z : k' = k ∧ j' = j
  · obtain ⟨rfl, rfl⟩ := z; rw [up_same, logA_lo (by omega), up_same]
  · rw [up_ne z]
    unfold logA
    rw [up_ne (by omega : ¬ (0 = k ∧ 7 = j)), up_ne z]
    by_cases h20 : 20 ≤ k'
    · rw [if_pos h20, if_pos h20]
      cases j' with
      | zero => rfl
      | succ j' => show A k' j' = up A k j x k' j'; rw [up_ne (by omega)]
    · rw [if_neg h20, if_neg h20]
theorem logA_dS {A : Vs} {p held nx a0 a1 a2 a3 a4 : Int32} {t : Nat} : dS p held nx t (logA A a0 a1 a2 a3 a4) = logA (dS p held nx t A) a0 a1 a2 a3 a4 := by
  unfold dS mvA
  rw [logA_lo (by omega), logA_lo (by omega)]
  split
  · rw [logA_up (by omega) (by omega), logA_up (by omega) (by omega), logA_up (by omega) (by omega)]
  · split
    · rw [logA_up (by omega) (by omega), logA_up (by omega) (by omega)]
    · rfl
theorem logA_lp {A : Vs} {p held nx a0 a1 a2 a3 a4 : Int32} : ∀ n, lp (dS p held nx) n (logA A a0 a1 a2 a3 a4) = logA (lp (dS p held nx) n A) a0 a1 a2 a3 a4
  | 0 => rfl
  | n + 1 => by show dS p held nx n (lp (dS p held nx) n (logA A a0 a1 a2 a3 a4)) = _; rw [logA_lp n, logA_dS]; rfl
theorem near_iff {A : Vs} (F : Wf A) {p t : Nat} (hp : p < nP A) (ht : t < nT A) : (nI t = holdF A (nI p) ∨ (A 9 t = 2 ∧ A 10 t = nI p)) ↔ A 10 t = nI p := by
  have h7 := F.1.2.1
  have h10 := F.1.2.2.2
  constructor
  · rintro (h | h)
    · rcases holdF_spec A (nI p) with ⟨e, -⟩ | ⟨u, hu, e, -, h4⟩
      · rw [e] at h; exact absurd h (m1_ne (by omega))
      · rw [e] at h
        have := (nI_eq (by omega) (by omega)).mp h
        rw [this]; exact h4
    · exact h.2
  · intro h
    rcases (F.2.2.2.1 t ht).2.1 with ⟨-, q⟩ | ⟨q | q, -⟩
    · rw [q] at h; exact absurd h.symm (m1_ne (by omega))
    · exact Or.inl (hold_of F ht q h).symm
    · exact Or.inr ⟨q, h⟩
theorem o_dies (hl : G.1.stackTraces = false) (hm : G.n0 ≤ m) (W : WldAt h m A) (F : Wf A) {p : Nat} (hp : p < nP A) : EvM G m_Mo_dies [.ref m, .int (nI p)] h (mpost m h (dieF A p)) := by
  have hp7 := F.1.P7 hp
  refine en_Mo_dies h _ m _ (e_Mo_dies_0 hl h _ m _ ⟨W.kd, _, o_heldBy hl W F _, W.kd, _, o_succ hl W F hp, W.kd, _, o_isTold hl hm W hp7 3 (holdF A (nI p)), fun o1 h1 z => Or.inl ?_⟩)
  obtain ⟨z1, W1, F1⟩ := z
  refine ⟨z1, ?_⟩
  clear z1
  have inv : ∀ t k, k ≠ 8 → k ≠ 9 → k ≠ 10 → ∀ j, lp (dS (nI p) (holdF A (nI p)) (succF A p)) t A k j = A k j := fun t k h8 h9 h10 j => by
    rw [lp_dS]; split
    · exact dS_ne (Or.inr ⟨h8, h9, h10⟩)
    · rfl
  have Bt : ∀ t, Bd (logA (lp (dS (nI p) (holdF A (nI p)) (succF A p)) t A) (A 0 2) (nI p) 3 (holdF A (nI p)) (A 1 p)) ∧ nT (logA (lp (dS (nI p) (holdF A (nI p)) (succF A p)) t A) (A 0 2) (nI p) 3 (holdF A (nI p)) (A 1 p)) = nT A := fun t => by
    have e0 : logA (lp (dS (nI p) (holdF A (nI p)) (succF A p)) t A) (A 0 2) (nI p) 3 (holdF A (nI p)) (A 1 p) 0 0 = A 0 0 := by rw [logA_lo (by omega), inv t 0 (by decide) (by decide) (by decide)]
    have e1 : logA (lp (dS (nI p) (holdF A (nI p)) (succF A p)) t A) (A 0 2) (nI p) 3 (holdF A (nI p)) (A 1 p) 0 1 = A 0 1 := by rw [logA_lo (by omega), inv t 0 (by decide) (by decide) (by decide)]
    refine ⟨?_, by unfold nT; rw [e1]⟩
    unfold Bd nP nT; rw [e0, e1]; exact F.1
  refine for_up (Q := fun t => ∀ h2, WldAt h2 m (logA (lp (dS (nI p) (holdF A (nI p)) (succF A p)) t A) (A 0 2) (nI p) 3 (holdF A (nI p)) (A 1 p)) → Fs (mW m) h h2 → Ev G m_Mo_dies 22 [.ref m, .int (nI p), .int (holdF A (nI p)), .int (succF A p), .int (nI t), un, un] [] h2 0 0 _) (n := nT A) (fun h2 W2 F2 => ?_) (fun t ht ih h2 W2 F2 => ?_) 0 (Nat.zero_le _) h1 W1 F1
  · obtain ⟨B2, e2⟩ := Bt (nT A)
    refine e_Mo_dies_22 hl h2 _ m _ _ _ _ ⟨W2.kd, _, o_things hl W2, fun _ => ⟨_, W2.r1, _, o_pAt hl p 4, W2.wr hm (by omega), rfl, ?_, ?_⟩, fun c => absurd (by have := B2.end_T; rw [e2] at this; exact this) c⟩
    · rw [nI_clamp (by omega)]
      have := W2.set (k := 1 + 4) (j := p) (dP (by omega) hp7) (adP (by omega)) 0
      rw [logA_up (by omega) (by omega)] at this
      exact this
    · rw [nI_clamp (by omega)]; exact F2.set (mW_at (by omega) (by omega))
  · obtain ⟨B2, e2⟩ := Bt t
    have r : ∀ k, logA (lp (dS (nI p) (holdF A (nI p)) (succF A p)) t A) (A 0 2) (nI p) 3 (holdF A (nI p)) (A 1 p) (6 + k) t = A (6 + k) t ∨ 14 ≤ k := fun k => by
      rcases Nat.lt_or_ge k 14 with q | q
      · left; rw [logA_lo (by omega), lp_dS, if_neg (by omega)]
      · exact Or.inr q
    have r8 := (r 2).resolve_right (by decide)
    have r9 := (r 3).resolve_right (by decide)
    have r10 := (r 4).resolve_right (by decide)
    have ht10 := F.1.T10 ht
    have ihe : lp (dS (nI p) (holdF A (nI p)) (succF A p)) (t + 1) A = dS (nI p) (holdF A (nI p)) (succF A p) t (lp (dS (nI p) (holdF A (nI p)) (succF A p)) t A) := rfl
    rw [ihe, ← logA_dS] at ih
    generalize hA : logA (lp (dS (nI p) (holdF A (nI p)) (succF A p)) t A) (A 0 2) (nI p) 3 (holdF A (nI p)) (A 1 p) = A2 at *
    have nr := near_iff F hp ht
    have s8 : A2 8 t = A 8 t := r8
    have s10 : A2 10 t = A 10 t := r10
    have fin : ∀ h3 A3 (own near : Int32), WldAt h3 m A3 → Fs (mW m) h h3 → mvA A3 t 0 (-1) = dS (nI p) (holdF A (nI p)) (succF A p) t A2 ∧ (¬ own = 0 ∨ ¬ near = 0) ∨ A3 = dS (nI p) (holdF A (nI p)) (succF A p) t A2 ∧ own = 0 ∧ near = 0 → Ev G m_Mo_dies 100 [.ref m, .int (nI p), .int (holdF A (nI p)), .int (succF A p), .int (nI t), .int own, .int near] [] h3 0 0 (mpost m h (dieF A p)) := by
      intro h3 A3 own near W3 F3 hc
      have go : mvA A3 t 0 (-1) = dS (nI p) (holdF A (nI p)) (succF A p) t A2 → ∃ Q : Res → Hp → Prop, EvM G m_Mo_lies [.ref m, .int (nI t), .int 0, .int (-1)] h3 Q ∧ ∀ (o : Res) (h4 : Hp), Q o h4 → (o = .inl none ∧ Ev G m_Mo_dies 22 [.ref m, .int (nI p), .int (holdF A (nI p)), .int (succF A p), .int (nI t + 1), un, un] [] h4 0 0 (mpost m h (dieF A p))) ∨ (∃ E, o = .inr E ∧ mpost m h (dieF A p) (.inr E) h4) := fun e => ⟨_, o_lies hl hm W3 ht10 0 (-1) (fun _ => rfl), fun o h4 y => Or.inl (by
        obtain ⟨y1, W4, F4⟩ := y
        refine ⟨y1, ?_⟩
        rw [nI_1]
        exact ih h4 (by rw [← e]; exact W4) (F3.tr F4))⟩
      refine e_Mo_dies_100 hl h3 _ m _ _ _ _ _ _ ⟨fun g => ⟨W3.kd, go ?_⟩, fun g => ⟨fun g2 => ?_, fun g2 => ⟨W3.kd, go ?_⟩⟩⟩
      · rcases hc with ⟨e, -⟩ | ⟨-, e, -⟩
        · exact e
        · exact absurd e g
      · rcases hc with ⟨-, e | e⟩ | ⟨e, -, -⟩
        · exact absurd g e
        · exact absurd g2 e
        · rw [nI_1]; exact ih h3 (by rw [← e]; exact W3) F3
      · rcases hc with ⟨e, -⟩ | ⟨-, -, e⟩
        · exact e
        · exact absurd e g2
    have mid0 : ∀ near : Int32, ¬ A 8 t = nI p → (near = 0 ∧ ¬ A 10 t = nI p ∨ ¬ near = 0 ∧ A 10 t = nI p) → Ev G m_Mo_dies 71 [.ref m, .int (nI p), .int (holdF A (nI p)), .int (succF A p), .int (nI t), .int 0, un] [.int near] h2 0 0 (mpost m h (dieF A p)) := by
      intro near h8 hn
      refine e_Mo_dies_71 hl h2 _ m _ _ _ _ _ _ ⟨fun _ => fin h2 A2 0 near W2 F2 ?_, fun g => absurd rfl g⟩
      unfold dS
      rw [s8, s10, if_neg h8]
      rcases hn with ⟨a, b⟩ | ⟨a, b⟩
      · exact Or.inr ⟨by rw [if_neg b], rfl, a⟩
      · exact Or.inl ⟨by rw [if_pos b], Or.inr a⟩
    have mid1 : ∀ near : Int32, A 8 t = nI p → Ev G m_Mo_dies 71 [.ref m, .int (nI p), .int (holdF A (nI p)), .int (succF A p), .int (nI t), .int 1, un] [.int near] h2 0 0 (mpost m h (dieF A p)) := by
      intro near h8
      have go : ∀ x : Int32, x = (if nI t = holdF A (nI p) then succF A p else -1) → Ev G m_Mo_dies 100 [.ref m, .int (nI p), .int (holdF A (nI p)), .int (succF A p), .int (nI t), .int 1, .int near] [] (hset h2 (m + 1) (44 + 5 * t + 2) (.int x)) 0 0 (mpost m h (dieF A p)) := fun x hx => by
        refine fin _ _ 1 near (W2.set (k := 6 + 2) (j := t) (dT (by omega) ht10) (adT (by omega)) x) (F2.set (mW_at (by omega) (by omega))) (Or.inl ⟨?_, Or.inl (by decide)⟩)
        unfold dS
        rw [s8, if_pos h8, hx]
      refine e_Mo_dies_71 hl h2 _ m _ _ _ _ _ _ ⟨fun g => absurd g (by decide), fun _ => ⟨_, W2.r1, _, o_tAt hl t 2, fun g => ⟨W2.wr hm (by omega), ?_⟩, fun g => ⟨W2.wr hm (by omega), ?_⟩⟩⟩
      · rw [nI_clamp (by omega)]; exact go (-1) (by rw [if_neg g])
      · rw [nI_clamp (by omega)]; exact go _ (by rw [if_pos g])
    have ew : ∀ y, EvI G m_Mo_isWith [.ref m, .int (nI t), .int 2, .int (nI p)] h2 y → True := fun _ _ => trivial
    refine e_Mo_dies_22 hl h2 _ m _ _ _ _ ⟨W2.kd, _, o_things hl W2, fun c => absurd c (B2.in_T (by rw [e2]; exact ht)), fun _ => ⟨W2.kd, A 8 t, by rw [← s8]; exact o_ofThing hl W2 ht10 (f := 2) (by decide), fun c => ⟨fun d => mid0 1 c (Or.inr ⟨by decide, nr.mp (Or.inl d)⟩), fun d => ⟨W2.kd, _, o_isWith hl W2 ht10 2 (nI p), fun e => mid0 0 c (Or.inl ⟨rfl, fun q => ?_⟩), fun e => mid0 1 c (Or.inr ⟨by decide, ?_⟩)⟩⟩, fun c => ⟨fun d => mid1 1 c, fun d => ⟨W2.kd, _, o_isWith hl W2 ht10 2 (nI p), fun e => mid1 0 c, fun e => mid1 1 c⟩⟩⟩⟩
    · rcases nr.mpr q with z | z
      · exact d z
      · exact with1 e ⟨by rw [show A2 9 t = A 9 t from r9]; exact z.1, by rw [s10]; exact z.2⟩
    · have := with2 e; rw [s10] at this; exact this.2
end MO4
