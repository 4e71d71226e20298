/-! ===== what is told of things ===== -/
def tellF (A : Vs) (t a : Nat) : Int32 := if a = 2 then (if A 8 t = -1 then 9 else A 8 t) else if a = 0 then A 6 t else A 7 t
def wrG (A : Vs) (b : Nat → Nat) (t : Nat) : Nat → Nat → Nat → Nat
  | 0, _, n => n
  | d + 1, i, n => wrG A b t d (i + 2) (if tellF A t (b i) = nI (b (i + 1)) then n else n + 1)
def wrN (A : Vs) (b : Nat → Nat) (u t : Nat) : Nat := wrG A b t (u / 2) 0 0
theorem wrG_le {A : Vs} {b : Nat → Nat} {t : Nat} : ∀ d i n, wrG A b t d i n ≤ n + d
  | 0, _, n => Nat.le_refl _
  | d + 1, i, n => by
    unfold wrG
    have := wrG_le (A := A) (b := b) (t := t) d (i + 2) (if tellF A t (b i) = nI (b (i + 1)) then n else n + 1)
    split at this <;> (split <;> first | omega | contradiction)
theorem wrN_le {A : Vs} {b : Nat → Nat} {u t : Nat} (h : u ≤ 40) : wrN A b u t ≤ 20 := by
  have := wrG_le (A := A) (b := b) (t := t) (u / 2) 0 0
  unfold wrN; omega
def fitF (A : Vs) (b : Nat → Nat) (u : Nat) : Int32 := lp (fun t s => if wrN A b u t ≤ 1 then s ||| sh1 t else s) (nT A) 0
def likS (A : Vs) (b : Nat → Nat) (u : Nat) (t : Nat) (s : Int32 × Nat) : Int32 × Nat := if wrN A b u t < s.2 then (nI t, wrN A b u t) else if s.1 ≠ -1 ∧ wrN A b u t = s.2 ∧ A 6 s.1.toNatClampNeg < A 6 t then (nI t, wrN A b u t) else s
def likF (A : Vs) (b : Nat → Nat) (u : Nat) : Int32 := (lp (likS A b u) (nT A) (-1, 2)).1
theorem lik_rg {A : Vs} {b : Nat → Nat} {u : Nat} : ∀ t, (lp (likS A b u) t (-1, 2) = (-1, 2)) ∨ ∃ q, q < t ∧ lp (likS A b u) t (-1, 2) = (nI q, wrN A b u q) ∧ wrN A b u q ≤ 1
  | 0 => Or.inl rfl
  | t + 1 => by
    show likS A b u t (lp (likS A b u) t (-1, 2)) = (-1, 2) ∨ ∃ q, q < t + 1 ∧ likS A b u t (lp (likS A b u) t (-1, 2)) = (nI q, wrN A b u q) ∧ wrN A b u q ≤ 1
    rcases lik_rg (A := A) (b := b) (u := u) t with e | ⟨q, hq, e, h1⟩
    · rw [e]; unfold likS
      split
      · rename_i c; exact Or.inr ⟨t, by omega, rfl, by have : wrN A b u t < 2 := c; omega⟩
      · rw [if_neg (fun z => z.1 rfl)]; exact Or.inl rfl
    · rw [e]; unfold likS
      split
      · rename_i c; exact Or.inr ⟨t, by omega, rfl, by have : wrN A b u t < wrN A b u q := c; omega⟩
      · split
        · rename_i c; exact Or.inr ⟨t, by omega, rfl, by have : wrN A b u t = wrN A b u q := c.2.1; omega⟩
        · exact Or.inr ⟨q, by omega, rfl, h1⟩
section TOLD
variable {G : Gx} {h h' : Hp} {x v m : Nat} {A : Vs} {la : Nat} {b : Nat → Nat} {n u : Nat}
theorem okT_lt {a c : Nat} (h : okT a c = true) : a < 3 ∧ c ≤ 99 := by unfold okT at h; simp at h; exact h
theorem t_tell (hl : G.1.stackTraces = false) (V : VlyAt h v A la) {t a : Nat} (ht : t < 10) (ha : a < 3) : EvI G m_Td_tellable [.ref v, .int (nI t), .int (nI a)] h (tellF A t a) := by
  unfold tellF
  refine en_Td_tellable h _ v _ _ (e_Td_tellable_0 hl h _ v _ _ ⟨fun c => ⟨fun d => ⟨_, V.r8, _, V.a7 ht, ?_, rfl⟩, fun d => ⟨_, V.r7, _, V.a6 ht, ?_, rfl⟩⟩, fun c => ⟨_, V.r9, _, V.a8 ht, fun d => ⟨_, V.r9, _, V.a8 ht, ?_, rfl⟩, fun d => ⟨?_, rfl⟩⟩⟩)
  · rw [if_neg (fun z => c (by rw [z]; rfl)), if_neg (fun z => d (by rw [z]; rfl))]
  · have : a = 0 := (nI_eq (by omega) (by decide)).mp (show nI a = nI 0 from d)
    rw [if_neg (by omega), if_pos this]
  · have : a = 2 := (nI_eq (by omega) (by decide)).mp (show nI a = nI 2 from c)
    rw [if_pos this, if_neg d]
  · have : a = 2 := (nI_eq (by omega) (by decide)).mp (show nI a = nI 2 from c)
    rw [if_pos this, if_pos d]
theorem o_what (hl : G.1.stackTraces = false) (W : WldAt h m A) {t a : Nat} (ht : t < 10) (ha : a < 3) : EvI G m_Mo_whatOf [.ref m, .int (nI t), .int (nI a)] h (tellF A t a) := by
  have of := o_ofThing hl W ht (f := a) (by omega)
  have e : ∀ (hn : ¬ a = 2), tellF A t a = A (6 + a) t := fun hn => by
    unfold tellF; rw [if_neg hn]
    by_cases z : a = 0
    · subst z; rw [if_pos rfl]
    · have : a = 1 := by omega
      subst this; rw [if_neg (by omega)]
  refine en_Mo_whatOf h _ m _ _ (e_Mo_whatOf_0 hl h _ m _ _ ⟨fun c => ⟨W.kd, _, of, ?_, rfl⟩, fun c => ⟨W.kd, _, o_ofThing hl W ht (f := 2) (by omega), fun d => ⟨W.kd, _, of, ?_, rfl⟩, fun d => ⟨?_, rfl⟩⟩⟩)
  · rw [e (fun z => c (by rw [z]; rfl))]
  · have : a = 2 := (nI_eq (by omega) (by decide)).mp (show nI a = nI 2 from c)
    subst this
    unfold tellF; rw [if_pos rfl, if_neg (show ¬ A 8 t = -1 from d)]
  · have : a = 2 := (nI_eq (by omega) (by decide)).mp (show nI a = nI 2 from c)
    subst this
    unfold tellF; rw [if_pos rfl, if_pos (show A 8 t = -1 from d)]
theorem t_wrong (hl : G.1.stackTraces = false) (Tp : TpC h x b n u) (V : VlyAt h v A la) {t : Nat} (ht : t < 10) (ok : rowF okT b u = 1) : EvI G m_Td_wrongOfThing [.ref (x + 1), .ref v, .int (nI t)] h (nI (wrN A b u t)) := by
  obtain ⟨u40, u2, row⟩ := rowF_ok ok
  refine en_Td_wrongOfThing h _ _ _ _ (e_Td_wrongOfThing_0 hl h _ _ _ _ ?_)
  suffices hh : ∀ d i k, i + 2 * d = u → i % 2 = 0 → Ev G m_Td_wrongOfThing 5 [.ref (x + 1), .ref v, .int (nI t), .int (nI k), .int (nI i)] [] h 0 0 (fun o h' => o = .inl (some (.int (nI (wrG A b t d i k)))) ∧ h' = h) from hh (u / 2) 0 0 (by omega) rfl
  intro d
  induction d with
  | zero =>
    intro i k hi _
    exact e_Td_wrongOfThing_5 hl h _ _ _ _ _ _ ⟨_, Tp.f2, fun _ => ⟨rfl, rfl⟩, fun c => absurd (by rw [← hi]; exact Int32.le_refl _) c⟩
  | succ d ih =>
    intro i k hi h2
    have q := okT_lt (row i h2 (by omega))
    refine e_Td_wrongOfThing_5 hl h _ _ _ _ _ _ ⟨_, Tp.f2, fun c => absurd c (nI_ge (by omega) (by omega)), fun _ => ⟨Tp.kd, _, t_at hl Tp (i := i) (by omega), _, t_tell hl V ht q.1, Tp.kd, nI (b (i + 1)), by rw [nI_1]; exact t_at hl Tp (by omega), fun c => ?_, fun c => ?_⟩⟩
    · rw [show nI i + 2 = nI (i + 2) from nI_add i 2]; unfold wrG; rw [if_pos c]; exact ih (i + 2) k (by omega) (by omega)
    · rw [show nI i + 2 = nI (i + 2) from nI_add i 2, nI_1]; unfold wrG; rw [if_neg c]; exact ih (i + 2) (k + 1) (by omega) (by omega)
theorem o_wrong (hl : G.1.stackTraces = false) (Tp : TpM h m b n u) (W : WldAt h m A) {t : Nat} (ht : t < 10) (ok : rowF okT b u = 1) : EvI G m_Mo_wrongRows [.ref m, .int (nI t)] h (nI (wrN A b u t)) := by
  obtain ⟨u40, u2, row⟩ := rowF_ok ok
  refine en_Mo_wrongRows h _ _ _ (e_Mo_wrongRows_0 hl h _ _ _ ?_)
  suffices hh : ∀ d i k, i + 2 * d = u → i % 2 = 0 → Ev G m_Mo_wrongRows 4 [.ref m, .int (nI t), .int (nI k), .int (nI i)] [] h 0 0 (fun o h' => o = .inl (some (.int (nI (wrG A b t d i k)))) ∧ h' = h) from hh (u / 2) 0 0 (by omega) rfl
  intro d
  induction d with
  | zero =>
    intro i k hi _
    exact e_Mo_wrongRows_4 hl h _ _ _ _ _ ⟨_, Tp.f11, fun _ => ⟨rfl, rfl⟩, fun c => absurd (by rw [← hi]; exact Int32.le_refl _) c⟩
  | succ d ih =>
    intro i k hi h2
    have q := okT_lt (row i h2 (by omega))
    refine e_Mo_wrongRows_4 hl h _ _ _ _ _ ⟨_, Tp.f11, fun c => absurd c (nI_ge (by omega) (by omega)), fun _ => ⟨_, Tp.r8, nI (b i), by rw [← sx_lo (by omega : b i < 128)]; exact Tp.at (by omega), W.kd, _, o_what hl W ht q.1, _, Tp.r8, nI (b (i + 1)), by rw [← sx_lo (by omega : b (i + 1) < 128), nI_1]; exact Tp.at (by omega), fun c => ?_, fun c => ?_⟩⟩
    · rw [show nI i + 2 = nI (i + 2) from nI_add i 2, nI_1]; unfold wrG; rw [if_neg c]; exact ih (i + 2) (k + 1) (by omega) (by omega)
    · rw [show nI i + 2 = nI (i + 2) from nI_add i 2, Int32.add_zero]; unfold wrG; rw [if_pos c]; exact ih (i + 2) k (by omega) (by omega)
theorem o_isHeld (hl : G.1.stackTraces = false) (Tp : TpM h m b n u) : EvI G m_Mo_isHeld [.ref m] h (rowF okT b u) := by
  have hu := Tp.u400
  have by_ : ∀ j, j < 400 → b j < 256 := fun j hj => (Tp.2.2.2.2.2.2 j hj).1
  have stop : ∀ i, Ev G m_Mo_isHeld 26 [.ref m, .int 0, .int i] [] h 0 0 (fun o h' => o = .inl (some (.int 0)) ∧ h' = h) := fun i =>
    e_Mo_isHeld_26 hl h _ _ _ _ ⟨_, Tp.f11, fun _ => bret_of (Or.inl rfl) ⟨rfl, rfl⟩, fun _ => ⟨fun _ => bret_of (Or.inl rfl) ⟨rfl, rfl⟩, fun c => absurd rfl c⟩⟩
  unfold rowF
  refine en_Mo_isHeld h _ _ (e_Mo_isHeld_0 hl h _ _ ⟨_, Tp.f11, by decide, fun c => ?_, fun c => ⟨_, Tp.f11, fun d => ?_, fun d => ?_⟩⟩)
  · rw [rm2 hu] at c
    have : ¬ u % 2 = 0 := fun z => c (by rw [z]; rfl)
    rw [if_neg this, ite_self]; exact stop 0
  · rw [if_pos ((nI_ltI (a := 40) (by decide) (by omega)).mp d)]; exact stop 0
  · rw [rm2 hu] at c
    have c2 : u % 2 = 0 := (nI_eq (by omega) (by decide)).mp (show nI (u % 2) = nI 0 from c)
    have c1 : ¬ 40 < u := fun z => d (nI_lt (a := 40) z (by omega))
    rw [if_neg c1, if_pos c2]
    suffices hh : ∀ d i, i + 2 * d = u → Ev G m_Mo_isHeld 26 [.ref m, .int 1, .int (nI i)] [] h 0 0 (fun o h' => o = .inl (some (.int (rowG okT b d i))) ∧ h' = h) from hh (u / 2) 0 (by omega)
    intro d
    induction d with
    | zero =>
      intro i hi
      exact e_Mo_isHeld_26 hl h _ _ _ _ ⟨_, Tp.f11, fun _ => bret_of (Or.inr rfl) ⟨rfl, rfl⟩, fun c => absurd (by rw [← hi]; exact Int32.le_refl _) c⟩
    | succ d ih =>
      intro i hi
      have b0 := by_ i (by omega)
      have b1 := by_ (i + 1) (by omega)
      have z0 := in_sx (k := b i) (lo := 0) (hi := 2) b0 (by omega) (by omega)
      have z1 := in_sx (k := b (i + 1)) (lo := 0) (hi := 99) b1 (by omega) (by omega)
      refine e_Mo_isHeld_26 hl h _ _ _ _ ⟨_, Tp.f11, fun c => absurd c (nI_ge (by omega) (by omega)), fun _ => ⟨fun c => absurd c (by decide), fun _ => ⟨_, Tp.r8, _, Tp.at (j := i) (by omega), _, o_ine hl z0, fun c => ?_, fun c => ⟨_, Tp.r8, sx (b (i + 1)), by rw [nI_1]; exact Tp.at (by omega), _, o_ine hl z1, fun e => ?_, fun e => ?_⟩⟩⟩⟩
      · have := ite0 c
        unfold rowG; rw [if_neg (by unfold okT; simp; omega)]; exact stop _
      · have := ite0 e
        unfold rowG; rw [if_neg (by unfold okT; simp; omega)]; exact stop _
      · have q0 := ite1 c
        have q1 := ite1 e
        rw [show nI i + 2 = nI (i + 2) from nI_add i 2]
        unfold rowG; rw [if_pos (by unfold okT; simp; omega)]
        exact ih (i + 2) (by omega)
theorem t_fit (hl : G.1.stackTraces = false) (Tp : TpC h x b n u) (V : VlyAt h v A la) (B : Bd A) (ok : rowF okT b u = 1) : EvI G m_Td_fittingThings [.ref (x + 1), .ref v] h (fitF A b u) := by
  have u40 := (rowF_ok ok).1
  refine en_Td_fittingThings h _ _ _ (e_Td_fittingThings_0 hl h _ _ _ ?_)
  refine for_up (Q := fun t => Ev G m_Td_fittingThings 4 [.ref (x + 1), .ref v, .int (lp (fun t s => if wrN A b u t ≤ 1 then s ||| sh1 t else s) t 0), .int (nI t)] [] h 0 0 _) (n := nT A) ?_ (fun t ht ih => ?_) 0 (Nat.zero_le _)
  · exact e_Td_fittingThings_4 hl h _ _ _ _ _ ⟨_, V.f6, fun _ => ⟨rfl, rfl⟩, fun c => absurd B.end_T c⟩
  · have w20 := wrN_le (A := A) (b := b) (t := t) u40
    simp only [lp] at ih
    refine e_Td_fittingThings_4 hl h _ _ _ _ _ ⟨_, V.f6, fun c => absurd c (B.in_T ht), fun _ => ⟨_, t_wrong hl Tp V (B.T10 ht) ok, fun c => ?_, fun c => ?_⟩⟩
    · have := (nI_ltI (a := 1) (by decide) (by omega)).mp c
      rw [if_neg (by omega)] at ih; rw [nI_1]; exact ih
    · rw [if_pos (by
        rcases Nat.lt_or_ge 1 (wrN A b u t) with q | q
        · exact absurd (nI_lt (a := 1) q (by omega)) c
        · exact q)] at ih
      rw [nI_1]; exact ih
theorem o_fit (hl : G.1.stackTraces = false) (Tp : TpM h m b n u) (W : WldAt h m A) (B : Bd A) (ok : rowF okT b u = 1) : EvI G m_Mo_thatFit [.ref m] h (fitF A b u) := by
  have u40 := (rowF_ok ok).1
  refine en_Mo_thatFit h _ _ (e_Mo_thatFit_0 hl h _ _ ?_)
  refine for_up (Q := fun t => Ev G m_Mo_thatFit 4 [.ref m, .int (lp (fun t s => if wrN A b u t ≤ 1 then s ||| sh1 t else s) t 0), .int (nI t)] [] h 0 0 _) (n := nT A) ?_ (fun t ht ih => ?_) 0 (Nat.zero_le _)
  · exact e_Mo_thatFit_4 hl h _ _ _ _ ⟨W.kd, _, o_things hl W, fun _ => ⟨rfl, rfl⟩, fun c => absurd B.end_T c⟩
  · have w20 := wrN_le (A := A) (b := b) (t := t) u40
    simp only [lp] at ih
    refine e_Mo_thatFit_4 hl h _ _ _ _ ⟨W.kd, _, o_things hl W, fun c => absurd c (B.in_T ht), fun _ => ⟨W.kd, _, o_wrong hl Tp W (B.T10 ht) ok, fun c => ?_, fun c => ?_⟩⟩
    · have := (nI_leI (a := 2) (by decide) (by omega)).mp c
      rw [if_neg (by omega)] at ih; rw [nI_1, Int32.or_zero]; exact ih
    · rw [if_pos (by
        rcases Nat.lt_or_ge 1 (wrN A b u t) with q | q
        · exact absurd (nI_le (a := 2) q (by omega)) c
        · exact q)] at ih
      rw [nI_1]; exact ih
end TOLD
