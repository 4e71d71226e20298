/-! ===== fingers opened by turns: both sides; what the class and the reference hold, all of it ===== -/
def TdS (h : Hp) (x : Nat) : Prop := h.1 (x + 3) = (7, 1) ∧ h.2.1 (x + 3) 0 = .ref (x + 4) ∧ h.1 (x + 4) = (102, 100)
def xF (a0 : Nat) : Nat → Nat → Prop := fun a _ => a = a0
theorem wnR_up {b : Nat → Nat} {f : Nat → Bool} {k i : Nat} (e : lp (wnR b f k) i false = true) : ∀ d, lp (wnR b f k) (i + d) false = true
  | 0 => e
  | d + 1 => by
    show wnR b f k (i + d) (lp (wnR b f k) (i + d) false) = true
    rw [wnR_up e d]; rfl
theorem b2i_0 {r : Bool} : b2i r = 0 ↔ r = false := by cases r <;> decide
section WIN
variable {G : Gx} {h h' : Hp} {x v m : Nat} {A : Vs} {la : Nat} {b : Nat → Nat} {n u : Nat}
theorem t_win (hl : G.1.stackTraces = false) (hx : G.n0 ≤ x) (Tp : TpC h x b n u) (S : TdS h x) (ok : dgF b u = 1) {k : Nat} (hk : k < 100) : EvM G m_Td_winningOpening [.ref (x + 3), .ref (x + 1), .int (nI k)] h (fun o h' => o = .inl (some (.int (opF b u k))) ∧ Fs (xF (x + 4)) h h') := by
  obtain ⟨u6, dg⟩ := dgF_ok ok
  refine en_Td_winningOpening h _ _ _ _ (e_Td_winningOpening_0 hl h _ _ _ _ ?_)
  refine for_up (Q := fun j => ∀ (g : Hp) (l : Int32), Fs (xF (x + 4)) h g → (∀ i, i < j → g.2.1 (x + 4) i = .int (b2i (wnT b u j i))) → (j = k + 1 → l = opF b u k) → Ev G m_Td_winningOpening 5 [.ref (x + 3), .ref (x + 1), .int (nI k), .int l, .int (nI j), un, un, un] [] g 0 0 (fun o h' => o = .inl (some (.int (opF b u k))) ∧ Fs (xF (x + 4)) h h')) (n := k + 1) ?_ (fun j hj ih => ?_) 0 (Nat.zero_le _) h (-1) Fs.rf (fun i hi => by omega) (fun z => by omega)
  · intro g l F c e
    exact e_Td_winningOpening_5 hl g _ _ _ _ _ _ ⟨fun _ => ⟨by rw [e rfl], F⟩, fun c => absurd (nI_lt (by omega) (by omega)) c⟩
  · intro g l F cont _
    have Tg : TpC g x b n u := Tp.keep F (fun a j z => by unfold xF; omega)
    have r0 : fR g 7 (x + 3) 0 (x + 4) := ⟨by rw [F.1, S.1], by rw [F.2.2 _ _ (by unfold xF; omega)]; exact S.2.1⟩
    have s4 : g.1 (x + 4) = (102, 100) := by rw [F.1]; exact S.2.2
    refine e_Td_winningOpening_5 hl g _ _ _ _ _ _ ⟨fun c => absurd c (nI_nlt (by omega) (by omega)), fun _ => ⟨_, r0, 100, s4, fun c => absurd c (nI_ge (a := j) (b := 100) (by omega) (by decide)), fun _ => ?_⟩⟩
    refine for_up (Q := fun i => Ev G m_Td_winningOpening 26 [.ref (x + 3), .ref (x + 1), .int (nI k), .int (lp (opS b (wnT b u j) j) i (-1)), .int (nI j), .int (nI i), un, un] [] g 0 0 (fun o h' => o = .inl (some (.int (opF b u k))) ∧ Fs (xF (x + 4)) h h')) (n := u) ?_ (fun i hi ih2 => ?_) 0 (Nat.zero_le _)
    · have fin : ∀ y, y = b2i (wnT b u (j + 1) j) → Ev G m_Td_winningOpening 117 [.ref (x + 3), .ref (x + 1), .int (nI k), .int (opF b u j), .int (nI j), un, un, un] [] (hset g (x + 4) (nI j).toNatClampNeg (.int y)) 0 0 (fun o h' => o = .inl (some (.int (opF b u k))) ∧ Fs (xF (x + 4)) h h') := fun y ey => by
        rw [nI_clamp (by omega)]
        refine e_Td_winningOpening_117 hl _ _ _ _ _ _ _ ?_
        rw [nI_1]
        refine ih _ _ (F.set rfl) (fun i hi => ?_) (fun z => by rw [show k = j by omega])
        by_cases z : i = j
        · subst z; rw [hs_eq, ey]
        · rw [hs_ne (by omega), cont i (by omega)]
          show _ = Value.int (b2i (if i = j then _ else _)); rw [if_neg z]
      have aw : aW G g 102 (x + 4) (nI j) := aW_of (by omega) s4 (by omega) (by decide)
      have wo := wn_op (k := j) dg
      refine e_Td_winningOpening_26 hl g _ _ _ _ _ _ _ ⟨_, Tg.f2, fun _ => ⟨_, r0, fun c => ⟨aw, fin 0 ?_⟩, fun c => ⟨aw, fin 1 ?_⟩⟩, fun c => absurd (Int32.le_refl _) c⟩
      · rw [wo, decide_eq_true (show opF b u j = -1 from c)]; rfl
      · rw [wo, decide_eq_false (show ¬ opF b u j = -1 from c)]; rfl
    · have d := dg i hi
      have ih' : ∀ s', opS b (wnT b u j) j i (lp (opS b (wnT b u j) j) i (-1)) = s' → Ev G m_Td_winningOpening 26 [.ref (x + 3), .ref (x + 1), .int (nI k), .int s', .int (nI j), .int (nI i + 1), un, un] [] g 0 0 (fun o h' => o = .inl (some (.int (opF b u k))) ∧ Fs (xF (x + 4)) h h') := fun s' e => by rw [nI_1, ← e]; exact ih2
      refine e_Td_winningOpening_26 hl g _ _ _ _ _ _ _ ⟨_, Tg.f2, fun c => absurd c (nI_ge hi (by omega)), fun _ => ⟨Tg.kd, _, t_at hl Tg hi, fun c => absurd c (nI_nle (by omega) (by omega)), fun _ => ⟨fun c => ⟨fun _ => ?_, fun z => absurd rfl z⟩, fun c => ⟨_, r0, b2i (wnT b u j (j - b i)), ?_, fun e => ⟨fun _ => ?_, fun z => absurd rfl z⟩, fun e => ⟨fun z => absurd z (by decide), fun _ => ⟨fun f => ?_, fun f => ⟨fun f2 => ?_, fun f2 => ?_⟩⟩⟩⟩⟩⟩⟩
      · have := (nI_ltI (by omega) (by omega)).mp c
        exact ih' _ (opS_n (fun z => by omega))
      · have : ¬ j < b i := fun z => c (nI_lt z (by omega))
        rw [pk_sub (by omega)]
        exact aI_of s4 (by omega) (by decide) (cont _ (by omega))
      · exact ih' _ (opS_n (fun z => e (b2i_0.mpr z.1.2)))
      · have : ¬ j < b i := fun z => c (nI_lt z (by omega))
        exact ih' (nI (b i)) (opS_p ⟨⟨by omega, b2i_0.mp e⟩, Or.inl f⟩)
      · exact ih' _ (opS_n (fun z => by
          rcases z.2 with q | q
          · exact f q
          · exact Int32.not_lt.mpr f2 q))
      · have : ¬ j < b i := fun z => c (nI_lt z (by omega))
        exact ih' (nI (b i)) (opS_p ⟨⟨by omega, b2i_0.mp e⟩, Or.inr (Int32.not_le.mp f2)⟩)
theorem o_lays (hl : G.1.stackTraces = false) (hm : G.n0 ≤ m) (Tp : TpM h m b n u) (r23 : h.2.1 m 23 = .ref (m + 14)) (s14 : h.1 (m + 14) = (102, 100)) (ok : dgF b u = 1) : EvM G m_Mo_laysWins [.ref m] h (fun o h' => o = .inl none ∧ Fs (xF (m + 14)) h h' ∧ ∀ j, j < 100 → h'.2.1 (m + 14) j = .int (b2i (wnT b u 100 j))) := by
  obtain ⟨u6, dg⟩ := dgF_ok ok
  refine en_Mo_laysWins h _ _ (e_Mo_laysWins_0 hl h _ _ ?_)
  refine for_up (Q := fun j => ∀ (g : Hp), Fs (xF (m + 14)) h g → (∀ i, i < j → g.2.1 (m + 14) i = .int (b2i (wnT b u j i))) → Ev G m_Mo_laysWins 2 [.ref m, .int (nI j), un, un] [] g 0 0 (fun o h' => o = .inl none ∧ Fs (xF (m + 14)) h h' ∧ ∀ j, j < 100 → h'.2.1 (m + 14) j = .int (b2i (wnT b u 100 j)))) (n := 100) ?_ (fun j hj ih => ?_) 0 (Nat.zero_le _) h Fs.rf (fun i hi => by omega)
  · intro g F c
    exact e_Mo_laysWins_2 hl g _ _ _ ⟨fun _ => ⟨rfl, F, c⟩, fun c => absurd (by decide) c⟩
  · intro g F cont
    have Tg : TpM g m b n u := Tp.keep F (fun a j z => by unfold xF; omega)
    have r0 : fR g 11 m 23 (m + 14) := ⟨Tg.kd, by rw [F.2.2 _ _ (by unfold xF; omega)]; exact r23⟩
    have s4 : g.1 (m + 14) = (102, 100) := by rw [F.1]; exact s14
    have aw : aW G g 102 (m + 14) (nI j) := aW_of (by omega) s4 (by omega) (by decide)
    have fin : ∀ y, y = b2i (lp (wnR b (wnT b u j) j) u false) → aW G g 102 (m + 14) (nI j) ∧ Ev G m_Mo_laysWins 69 [.ref m, .int (nI j), un, un] [] (hset g (m + 14) (nI j).toNatClampNeg (.int y)) 0 0 (fun o h' => o = .inl none ∧ Fs (xF (m + 14)) h h' ∧ ∀ j, j < 100 → h'.2.1 (m + 14) j = .int (b2i (wnT b u 100 j))) := fun y ey => by
      refine ⟨aw, ?_⟩
      rw [nI_clamp (by omega)]
      refine e_Mo_laysWins_69 hl _ _ _ _ ?_
      rw [nI_1]
      refine ih _ (F.set rfl) (fun i hi => ?_)
      by_cases z : i = j
      · subst z; rw [hs_eq, ey]
        show _ = Value.int (b2i (if i = i then _ else _)); rw [if_pos rfl]
      · rw [hs_ne (by omega), cont i (by omega)]
        show _ = Value.int (b2i (if i = j then _ else _)); rw [if_neg z]
    refine e_Mo_laysWins_2 hl g _ _ _ ⟨fun c => absurd c (nI_ge (b := 100) hj (by decide)), fun _ => ?_⟩
    refine for_up (Q := fun i => lp (wnR b (wnT b u j) j) i false = false → Ev G m_Mo_laysWins 12 [.ref m, .int (nI j), .int 0, .int (nI i)] [] g 0 0 (fun o h' => o = .inl none ∧ Fs (xF (m + 14)) h h' ∧ ∀ j, j < 100 → h'.2.1 (m + 14) j = .int (b2i (wnT b u 100 j)))) (n := u) ?_ (fun i hi ih2 => ?_) 0 (Nat.zero_le _) rfl
    · intro e
      exact e_Mo_laysWins_12 hl g _ _ _ _ _ ⟨_, Tg.f11, fun _ => ⟨_, r0, bret_of (Or.inl rfl) (fin 0 (by rw [e]; rfl))⟩, fun c => absurd (Int32.le_refl _) c⟩
    · intro e
      have d := dg i hi
      have a0 : aI g 103 (m + 6) (nI i) (nI (b i)) := by rw [← sx_lo (by omega : b i < 128)]; exact Tg.at (by omega)
      have ih' : wnR b (wnT b u j) j i false = false → Ev G m_Mo_laysWins 12 [.ref m, .int (nI j), .int 0, .int (nI i + 1)] [] g 0 0 (fun o h' => o = .inl none ∧ Fs (xF (m + 14)) h h' ∧ ∀ j, j < 100 → h'.2.1 (m + 14) j = .int (b2i (wnT b u 100 j))) := fun z => by
        rw [nI_1]; exact ih2 (by show wnR b (wnT b u j) j i (lp (wnR b (wnT b u j) j) i false) = false; rw [e]; exact z)
      refine e_Mo_laysWins_12 hl g _ _ _ _ _ ⟨_, Tg.f11, fun c => absurd c (nI_ge hi (by omega)), fun _ => ⟨fun z => absurd rfl z, fun _ => ⟨_, Tg.r8, _, a0, fun c => ?_, fun c => ⟨_, r0, _, Tg.r8, _, a0, b2i (wnT b u j (j - b i)), ?_, fun f => ?_, fun f => ?_⟩⟩⟩⟩
      · have := (nI_ltI (by omega) (by omega)).mp c
        exact ih' (by unfold wnR; simp; omega)
      · have : ¬ j < b i := fun z => c (nI_lt z (by omega))
        rw [pk_sub (by omega)]
        exact aI_of s4 (by omega) (by decide) (cont _ (by omega))
      · have : wnT b u j (j - b i) = true := by
          cases q : wnT b u j (j - b i) with
          | true => rfl
          | false => exact absurd (b2i_0.mpr q) f
        exact ih' (by unfold wnR; simp [this])
      · have c1 : ¬ j < b i := fun z => c (nI_lt z (by omega))
        have f1 := b2i_0.mp f
        have tr : lp (wnR b (wnT b u j) j) u false = true := by
          have : lp (wnR b (wnT b u j) j) (i + 1) false = true := by
            show wnR b (wnT b u j) j i (lp (wnR b (wnT b u j) j) i false) = true
            rw [e]; unfold wnR; simp [f1]; omega
          have := wnR_up this (u - (i + 1))
          rw [show i + 1 + (u - (i + 1)) = u by omega] at this; exact this
        exact e_Mo_laysWins_12 hl g _ _ _ _ _ ⟨_, Tg.f11, fun _ => ⟨_, r0, bret_of (Or.inr rfl) (fin 1 (by rw [tr]; rfl))⟩, fun _ => ⟨fun _ => ⟨_, r0, bret_of (Or.inr rfl) (fin 1 (by rw [tr]; rfl))⟩, fun z => absurd z (by decide)⟩⟩
theorem o_opens37 (hl : G.1.stackTraces = false) (Tp : TpM h m b n u) (r23 : h.2.1 m 23 = .ref (m + 14)) (s14 : h.1 (m + 14) = (102, 100)) (ok : dgF b u = 1) (cont : ∀ j, j < 100 → h.2.1 (m + 14) j = .int (b2i (wnT b u 100 j))) {k : Nat} (hk : k < 100) {P : Res → Hp → Prop} (fin : P (.inl (some (.int (opF b u k)))) h) : Ev G m_Mo_opens 37 [.ref m, .int (nI k), .int 1000000, .int 0] [] h 0 0 P := by
  obtain ⟨u6, dg⟩ := dgF_ok ok
  have r0 : fR h 11 m 23 (m + 14) := ⟨Tp.kd, r23⟩
  refine for_up (Q := fun i => Ev G m_Mo_opens 37 [.ref m, .int (nI k), .int (lp (leS b (wnT b u k) k) i 1000000), .int (nI i)] [] h 0 0 P) (n := u) ?_ (fun i hi ih2 => ?_) 0 (Nat.zero_le _)
  · have rg := op_rg (f := wnT b u k) (k := k) dg u (Nat.le_refl _)
    refine e_Mo_opens_37 hl h _ _ _ _ _ ⟨_, Tp.f11, fun _ => ⟨fun c => ?_, fun c => ?_⟩, fun c => absurd (Int32.le_refl _) c⟩
    · rcases rg with ⟨e1, -, e3⟩ | ⟨q, q1, q9, e1, -, e3⟩
      · exact absurd e3 c
      · rw [e3, ← e1]; exact fin
    · rcases rg with ⟨e1, -, e3⟩ | ⟨q, q1, q9, e1, -, e3⟩
      · rw [← e1]; exact fin
      · rw [e3] at c; exact absurd ((nI_eq (by omega) (by decide)).mp (show nI q = nI 1000000 from c)) (by omega)
  · have d := dg i hi
    have a0 : aI h 103 (m + 6) (nI i) (nI (b i)) := by rw [← sx_lo (by omega : b i < 128)]; exact Tp.at (by omega)
    have ih' : ∀ s', leS b (wnT b u k) k i (lp (leS b (wnT b u k) k) i 1000000) = s' → Ev G m_Mo_opens 37 [.ref m, .int (nI k), .int s', .int (nI i + 1)] [] h 0 0 P := fun s' e => by rw [nI_1, ← e]; exact ih2
    refine e_Mo_opens_37 hl h _ _ _ _ _ ⟨_, Tp.f11, fun c => absurd c (nI_ge hi (by omega)), fun _ => ⟨_, Tp.r8, _, a0, fun c => ?_, fun c => ⟨_, r0, _, Tp.r8, _, a0, b2i (wnT b u k (k - b i)), ?_, fun f => ?_, fun f => ⟨_, Tp.r8, _, a0, ?_⟩⟩⟩⟩
    · have := (nI_ltI (by omega) (by omega)).mp c
      exact ih' _ (leS_n (fun z => by omega))
    · have c1 : ¬ k < b i := fun z => c (nI_lt z (by omega))
      rw [pk_sub (by omega), ← wnT_st (k := k) (by omega) (100 - k), show k + (100 - k) = 100 by omega]
      exact aI_of s14 (by omega) (by decide) (cont _ (by omega))
    · exact ih' _ (leS_n (fun z => f (b2i_0.mpr z.2)))
    · have c1 : ¬ k < b i := fun z => c (nI_lt z (by omega))
      exact ih' _ (leS_p ⟨by omega, b2i_0.mp f⟩)
end WIN
theorem wn_op2 {b : Nat → Nat} {u k : Nat} (dg : ∀ i, i < u → 1 ≤ b i ∧ b i ≤ 9) (hk : k < 100) : (if opF b u k = -1 then (0 : Int32) else 1) = b2i (wnT b u 100 k) := by
  have := wnT_st (b := b) (u := u) (k := k + 1) (j := k) (by omega) (100 - (k + 1))
  rw [show k + 1 + (100 - (k + 1)) = 100 by omega, wn_op dg] at this
  rw [this]
  by_cases c : opF b u k = -1
  · rw [if_pos c, decide_eq_true c]; rfl
  · rw [if_neg c, decide_eq_false c]; rfl
