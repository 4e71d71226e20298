/-! ===== the likeliest thing, what to ask, strengths: both sides ===== -/
theorem likS_q {A : Vs} {b : Nat → Nat} {u t q : Nat} (hq : q < 10) : likS A b u t (nI q, wrN A b u q) = if wrN A b u t < wrN A b u q then (nI t, wrN A b u t) else if wrN A b u t = wrN A b u q ∧ A 6 q < A 6 t then (nI t, wrN A b u t) else (nI q, wrN A b u q) := by
  unfold likS
  simp only [nI_clamp (by omega : q < 2 ^ 31), ne_eq, m1_ne (by omega : q < 2 ^ 31), not_false_eq_true, true_and]
def partN (A : Vs) (s : Int32) (w t : Nat) : Nat → Nat := fun n => lp (fun u c => if bit1 s u = 1 ∧ tellF A u w = tellF A t w then c + 1 else c) n 0
def greatN (A : Vs) (s : Int32) (w : Nat) : Nat → Nat := fun n => lp (fun t g => if bit1 s t = 1 then max g (partN A s w t (nT A)) else g) n 0
theorem partN_le {A : Vs} {s : Int32} {w t : Nat} : ∀ n, partN A s w t n ≤ n
  | 0 => Nat.le_refl _
  | n + 1 => by
    have := partN_le (A := A) (s := s) (w := w) (t := t) n
    show (if bit1 s n = 1 ∧ tellF A n w = tellF A t w then partN A s w t n + 1 else partN A s w t n) ≤ n + 1
    split <;> omega
theorem greatN_le {A : Vs} {s : Int32} {w : Nat} : ∀ n, greatN A s w n ≤ nT A
  | 0 => Nat.zero_le _
  | n + 1 => by
    have := greatN_le (A := A) (s := s) (w := w) n
    have := partN_le (A := A) (s := s) (w := w) (t := n) (nT A)
    show (if bit1 s n = 1 then max (greatN A s w n) (partN A s w n (nT A)) else greatN A s w n) ≤ nT A
    split <;> omega
def qS (A : Vs) (s : Int32) (w : Nat) (q : Int32 × Nat) : Int32 × Nat := if greatN A s w (nT A) < q.2 then (nI w, greatN A s w (nT A)) else q
theorem qS_p {A : Vs} {s : Int32} {w : Nat} {q : Int32 × Nat} (c : greatN A s w (nT A) < q.2) : qS A s w q = (nI w, greatN A s w (nT A)) := by unfold qS; rw [if_pos c]
theorem qS_n {A : Vs} {s : Int32} {w : Nat} {q : Int32 × Nat} (c : ¬ greatN A s w (nT A) < q.2) : qS A s w q = q := by unfold qS; rw [if_neg c]
def askF (A : Vs) (s : Int32) : Int32 := if 2 ≤ bcF s then (lp (qS A s) 3 (-1, 11)).1 else -1
theorem qS_3 {A : Vs} {s : Int32} {k : Nat} (B : Bd A) (hk : 11 ≤ k) : lp (qS A s) 3 (-1, k) = lp (qS A s) 3 (-1, 11) := by
  have h1 := greatN_le (A := A) (s := s) (w := 0) (nT A)
  have h2 := B.2.2.2
  have e : ∀ j, 11 ≤ j → qS A s 0 (-1, j) = (nI 0, greatN A s 0 (nT A)) := fun j hj => by unfold qS; rw [if_pos (by show _ < j; omega)]
  show qS A s 2 (qS A s 1 (qS A s 0 (-1, k))) = qS A s 2 (qS A s 1 (qS A s 0 (-1, 11)))
  rw [e k hk, e 11 (Nat.le_refl _)]
theorem qS_b {A : Vs} {s : Int32} {k : Nat} (B : Bd A) (hk : 11 ≤ k) (hk2 : k < 2 ^ 31) : ∀ n, (lp (qS A s) n (-1, k)).2 < 2 ^ 31
  | 0 => hk2
  | n + 1 => by
    have := qS_b (A := A) (s := s) B hk hk2 n
    have h1 := greatN_le (A := A) (s := s) (w := n) (nT A)
    have h2 := B.2.2.2
    show (qS A s n (lp (qS A s) n (-1, k))).2 < 2 ^ 31
    unfold qS
    split
    · show greatN A s n (nT A) < 2 ^ 31; omega
    · exact this
theorem le1_iff {x : Int32} : x ≤ 1 ↔ ¬ 2 ≤ x := by
  rw [Int32.le_iff_toInt_le, Int32.le_iff_toInt_le]
  have e1 : (1 : Int32).toInt = 1 := rfl
  have e2 : (2 : Int32).toInt = 2 := rfl
  omega
theorem bit01 (s : Int32) {t : Nat} (ht : t < 32) : bit1 s t = 0 ∨ bit1 s t = 1 := by
  rw [bit1_eq s ht]
  split
  · exact Or.inr rfl
  · exact Or.inl rfl
section TOLD2
variable {G : Gx} {h h' : Hp} {x v m : Nat} {A : Vs} {la : Nat} {b : Nat → Nat} {n u : Nat}
theorem t_likely (hl : G.1.stackTraces = false) (Tp : TpC h x b n u) (V : VlyAt h v A la) (B : Bd A) (ok : rowF okT b u = 1) : EvI G m_Td_likeliestThing [.ref (x + 1), .ref v] h (likF A b u) := by
  have u40 := (rowF_ok ok).1
  refine en_Td_likeliestThing h _ _ _ (e_Td_likeliestThing_0 hl h _ _ _ ?_)
  refine for_up (Q := fun t => Ev G m_Td_likeliestThing 7 [.ref (x + 1), .ref v, .int (lp (likS A b u) t (-1, 2)).1, .int (nI (lp (likS A b u) t (-1, 2)).2), .int (nI t), un, un] [] h 0 0 (fun o h' => o = .inl (some (.int (likF A b u))) ∧ h' = h)) (n := nT A) ?_ (fun t ht ih => ?_) 0 (Nat.zero_le _)
  · exact e_Td_likeliestThing_7 hl h _ _ _ _ _ _ ⟨_, V.f6, fun _ => ⟨rfl, rfl⟩, fun c => absurd B.end_T c⟩
  · have w20 := wrN_le (A := A) (b := b) (t := t) u40
    have t10 := B.T10 ht
    have ih' : ∀ s', likS A b u t (lp (likS A b u) t (-1, 2)) = s' → Ev G m_Td_likeliestThing 7 [.ref (x + 1), .ref v, .int s'.1, .int (nI s'.2), .int (nI t + 1), un, un] [] h 0 0 (fun o h' => o = .inl (some (.int (likF A b u))) ∧ h' = h) := fun s' e => by rw [nI_1, ← e]; exact ih
    rcases lik_rg (A := A) (b := b) (u := u) t with e | ⟨q, hq, e, h1⟩
    · rw [e] at ih' ⊢
      refine e_Td_likeliestThing_7 hl h _ _ _ _ _ _ ⟨_, V.f6, fun c => absurd c (B.in_T ht), fun _ => ⟨_, t_wrong hl Tp V t10 ok, fun _ => ⟨fun c => ?_, fun c => ⟨fun _ => ?_, fun z => absurd rfl z⟩⟩, fun c => absurd rfl c⟩⟩
      · have := (nI_ltI (by omega) (by decide)).mp c
        exact ih' (nI t, wrN A b u t) (by unfold likS; rw [if_pos this])
      · have : ¬ wrN A b u t < 2 := fun z => c (nI_lt z (by decide))
        exact ih' (-1, 2) (by unfold likS; rw [if_neg this, if_neg (fun z => z.1 rfl)])
    · have q10 : q < 10 := by omega
      have ih2 := fun s' e' => ih' s' (by rw [e, likS_q q10]; exact e')
      rw [e]
      refine e_Td_likeliestThing_7 hl h _ _ _ _ _ _ ⟨_, V.f6, fun c => absurd c (B.in_T ht), fun _ => ⟨_, t_wrong hl Tp V t10 ok, fun c => absurd c (m1_ne (by omega)), fun _ => ⟨fun c => ⟨fun d => ?_, fun d => ⟨fun _ => ?_, fun z => absurd rfl z⟩⟩, fun c => ⟨_, V.r7, _, V.a6 t10, _, V.r7, _, V.a6 q10, fun f => ⟨fun d => ?_, fun d => ⟨fun _ => ?_, fun z => absurd rfl z⟩⟩, fun f => ⟨fun d => ?_, fun d => ⟨fun z => absurd z (by decide), fun _ => ?_⟩⟩⟩⟩⟩⟩
      · have := (nI_ltI (by omega) (by omega)).mp d
        exact ih2 (nI t, wrN A b u t) (by rw [if_pos this])
      · have : ¬ wrN A b u t < wrN A b u q := fun z => d (nI_lt z (by omega))
        exact ih2 (nI q, wrN A b u q) (by rw [if_neg this, if_neg (fun z => c (by rw [z.1]))])
      · have := (nI_ltI (by omega) (by omega)).mp d
        exact ih2 (nI t, wrN A b u t) (by rw [if_pos this])
      · have : ¬ wrN A b u t < wrN A b u q := fun z => d (nI_lt z (by omega))
        exact ih2 (nI q, wrN A b u q) (by rw [if_neg this, if_neg (fun z => (Int32.not_lt.mpr f) z.2)])
      · have := (nI_ltI (by omega) (by omega)).mp d
        exact ih2 (nI t, wrN A b u t) (by rw [if_pos this])
      · have : ¬ wrN A b u t < wrN A b u q := fun z => d (nI_lt z (by omega))
        have c' := (nI_eq (by omega) (by omega)).mp c
        exact ih2 (nI t, wrN A b u t) (by rw [if_neg this, if_pos ⟨c', Int32.not_le.mp f⟩])
theorem o_likely30 (hl : G.1.stackTraces = false) (Tp : TpM h m b n u) (W : WldAt h m A) (B : Bd A) (ok : rowF okT b u = 1) {P : Res → Hp → Prop} (fin : P (.inl (some (.int (likF A b u)))) h) : Ev G m_Mo_likely 30 [.ref m, .int (-1), .int 0, un, un] [] h 0 0 P := by
  have u40 := (rowF_ok ok).1
  refine for_up (Q := fun t => Ev G m_Mo_likely 30 [.ref m, .int (lp (likS A b u) t (-1, 2)).1, .int (nI t), un, un] [] h 0 0 P) (n := nT A) ?_ (fun t ht ih => ?_) 0 (Nat.zero_le _)
  · exact e_Mo_likely_30 hl h _ _ _ _ ⟨W.kd, _, o_things hl W, fun _ => fin, fun c => absurd B.end_T c⟩
  · have w20 := wrN_le (A := A) (b := b) (t := t) u40
    have t10 := B.T10 ht
    have ih' : ∀ s', likS A b u t (lp (likS A b u) t (-1, 2)) = s' → Ev G m_Mo_likely 30 [.ref m, .int s'.1, .int (nI t + 1), un, un] [] h 0 0 P := fun s' e => by rw [nI_1, ← e]; exact ih
    rcases lik_rg (A := A) (b := b) (u := u) t with e | ⟨q, hq, e, h1⟩
    · rw [e] at ih' ⊢
      refine e_Mo_likely_30 hl h _ _ _ _ ⟨W.kd, _, o_things hl W, fun c => absurd c (B.in_T ht), fun _ => ⟨W.kd, _, o_wrong hl Tp W t10 ok, fun c => ⟨fun d => absurd rfl d, fun _ => ⟨fun d => ?_, fun d => absurd (nI_lt (b := 2) (by have := (nI_leI (b := 1) (by omega) (by decide)).mp c; omega) (by decide)) d⟩⟩, fun c => ?_⟩⟩
      · have := (nI_ltI (b := 2) (by omega) (by decide)).mp d
        exact ih' (nI t, wrN A b u t) (by unfold likS; rw [if_pos this])
      · have : ¬ wrN A b u t < 2 := fun z => c (nI_le (b := 1) (by omega) (by decide))
        exact ih' (-1, 2) (by unfold likS; rw [if_neg this, if_neg (fun z => z.1 rfl)])
    · have q10 : q < 10 := by omega
      have ih2 := fun s' e' => ih' s' (by rw [e, likS_q q10]; exact e')
      rw [e]
      refine e_Mo_likely_30 hl h _ _ _ _ ⟨W.kd, _, o_things hl W, fun c => absurd c (B.in_T ht), fun _ => ⟨W.kd, _, o_wrong hl Tp W t10 ok, fun c => ⟨fun _ => ⟨W.kd, _, o_wrong hl Tp W q10 ok, fun d => ?_, fun d => ⟨fun f => ?_, fun f => ⟨W.kd, _, o_ofThing hl W t10 (f := 0) (by decide), W.kd, _, o_ofThing hl W q10 (f := 0) (by decide), fun g => ?_, fun g => ?_⟩⟩⟩, fun d => absurd d (m1_ne (by omega))⟩, fun c => ?_⟩⟩
      · have := (nI_ltI (by omega) (by omega)).mp d
        exact ih2 (nI t, wrN A b u t) (by rw [if_pos this])
      · have : ¬ wrN A b u t < wrN A b u q := fun z => d (nI_lt z (by omega))
        exact ih2 (nI q, wrN A b u q) (by rw [if_neg this, if_neg (fun z => f (by rw [z.1]))])
      · have : ¬ wrN A b u t < wrN A b u q := fun z => d (nI_lt z (by omega))
        exact ih2 (nI q, wrN A b u q) (by rw [if_neg this, if_neg (fun z => (Int32.not_lt.mpr g) z.2)])
      · have : ¬ wrN A b u t < wrN A b u q := fun z => d (nI_lt z (by omega))
        have f' := (nI_eq (by omega) (by omega)).mp f
        exact ih2 (nI t, wrN A b u t) (by rw [if_neg this, if_pos ⟨f', Int32.not_le.mp g⟩])
      · have : ¬ wrN A b u t ≤ 1 := fun z => c (nI_le (b := 1) z (by decide))
        exact ih2 (nI q, wrN A b u q) (by rw [if_neg (by omega), if_neg (by omega)])
theorem t_great (hl : G.1.stackTraces = false) (V : VlyAt h v A la) (B : Bd A) (s : Int32) {w : Nat} (hw : w < 3) : EvI G m_Td_greatestPart [.ref v, .int s, .int (nI w)] h (nI (greatN A s w (nT A))) := by
  have b10 := B.2.2.2
  refine en_Td_greatestPart h _ _ _ _ (e_Td_greatestPart_0 hl h _ _ _ _ ?_)
  refine for_up (Q := fun t => Ev G m_Td_greatestPart 5 [.ref v, .int s, .int (nI w), .int (nI (greatN A s w t)), .int (nI t), un, un] [] h 0 0 (fun o h' => o = .inl (some (.int (nI (greatN A s w (nT A))))) ∧ h' = h)) (n := nT A) ?_ (fun t ht ih => ?_) 0 (Nat.zero_le _)
  · exact e_Td_greatestPart_5 hl h _ _ _ _ _ _ ⟨_, V.f6, fun _ => ⟨rfl, rfl⟩, fun c => absurd B.end_T c⟩
  · have t10 := B.T10 ht
    refine e_Td_greatestPart_5 hl h _ _ _ _ _ _ ⟨_, V.f6, fun c => absurd c (B.in_T ht), fun _ => ?_⟩
    refine for_up (Q := fun k => Ev G m_Td_greatestPart 20 [.ref v, .int s, .int (nI w), .int (nI (greatN A s w t)), .int (nI t), .int (nI (partN A s w t k)), .int (nI k)] [] h 0 0 (fun o h' => o = .inl (some (.int (nI (greatN A s w (nT A))))) ∧ h' = h)) (n := nT A) ?_ (fun k hk ih2 => ?_) 0 (Nat.zero_le _)
    · have g1 := greatN_le (A := A) (s := s) (w := w) t
      have g2 := partN_le (A := A) (s := s) (w := w) (t := t) (nT A)
      refine e_Td_greatestPart_20 hl h _ _ _ _ _ _ _ _ ⟨_, V.f6, fun _ => ⟨fun c => ?_, fun c => ?_⟩, fun c => absurd B.end_T c⟩
      · rw [nI_1]
        have e : greatN A s w (t + 1) = greatN A s w t := by show (if bit1 s t = 1 then _ else _) = _; rw [if_neg (show ¬ bit1 s t = 1 from c)]; rfl
        rw [e] at ih; exact ih
      · rw [nI_1, imax_nI (by omega) (by omega)]
        have e : greatN A s w (t + 1) = max (greatN A s w t) (partN A s w t (nT A)) := by show (if bit1 s t = 1 then _ else _) = _; rw [if_pos (show bit1 s t = 1 from c)]; rfl
        rw [e] at ih; exact ih
    · have k10 := B.T10 hk
      have st : ∀ c, (if bit1 s k = 1 ∧ tellF A k w = tellF A t w then partN A s w t k + 1 else partN A s w t k) = c → Ev G m_Td_greatestPart 20 [.ref v, .int s, .int (nI w), .int (nI (greatN A s w t)), .int (nI t), .int (nI c), .int (nI k + 1)] [] h 0 0 (fun o h' => o = .inl (some (.int (nI (greatN A s w (nT A))))) ∧ h' = h) := fun c e => by rw [nI_1, ← e]; exact ih2
      refine e_Td_greatestPart_20 hl h _ _ _ _ _ _ _ _ ⟨_, V.f6, fun c => absurd c (B.in_T hk), fun _ => ⟨fun c => ?_, fun c => ⟨_, t_tell hl V k10 hw, _, t_tell hl V t10 hw, fun d => ?_, fun d => ?_⟩⟩⟩
      · exact st _ (if_neg (fun z => c z.1))
      · exact st _ (if_neg (fun z => d z.2))
      · rw [nI_1]; exact st _ (if_pos ⟨c, d⟩)
theorem o_part (hl : G.1.stackTraces = false) (W : WldAt h m A) (B : Bd A) (s : Int32) {w : Nat} (hw : w < 3) : EvI G m_Mo_partOf [.ref m, .int s, .int (nI w)] h (nI (greatN A s w (nT A))) := by
  have b10 := B.2.2.2
  refine en_Mo_partOf h _ _ _ _ (e_Mo_partOf_0 hl h _ _ _ _ ?_)
  refine for_up (Q := fun t => Ev G m_Mo_partOf 5 [.ref m, .int s, .int (nI w), .int (nI (greatN A s w t)), .int (nI t), un, un] [] h 0 0 (fun o h' => o = .inl (some (.int (nI (greatN A s w (nT A))))) ∧ h' = h)) (n := nT A) ?_ (fun t ht ih => ?_) 0 (Nat.zero_le _)
  · exact e_Mo_partOf_5 hl h _ _ _ _ _ _ ⟨W.kd, _, o_things hl W, fun _ => ⟨rfl, rfl⟩, fun c => absurd B.end_T c⟩
  · have t10 := B.T10 ht
    have g1 := greatN_le (A := A) (s := s) (w := w) t
    have g2 := partN_le (A := A) (s := s) (w := w) (t := t) (nT A)
    refine e_Mo_partOf_5 hl h _ _ _ _ _ _ ⟨W.kd, _, o_things hl W, fun c => absurd c (B.in_T ht), fun _ => ?_⟩
    by_cases hb : bit1 s t = 1
    · have e : greatN A s w (t + 1) = max (greatN A s w t) (partN A s w t (nT A)) := by show (if bit1 s t = 1 then _ else _) = _; rw [if_pos hb]; rfl
      rw [e] at ih
      refine for_up (Q := fun k => Ev G m_Mo_partOf 20 [.ref m, .int s, .int (nI w), .int (nI (greatN A s w t)), .int (nI t), .int (nI (partN A s w t k)), .int (nI k)] [] h 0 0 (fun o h' => o = .inl (some (.int (nI (greatN A s w (nT A))))) ∧ h' = h)) (n := nT A) ?_ (fun k hk ih2 => ?_) 0 (Nat.zero_le _)
      · refine e_Mo_partOf_20 hl h _ _ _ _ _ _ _ _ ⟨W.kd, _, o_things hl W, fun _ => ?_, fun c => absurd B.end_T c⟩
        rw [nI_1, imax_nI (by omega) (by omega)]; exact ih
      · have k10 := B.T10 hk
        have st : ∀ c, (if bit1 s k = 1 ∧ tellF A k w = tellF A t w then partN A s w t k + 1 else partN A s w t k) = c → Ev G m_Mo_partOf 20 [.ref m, .int s, .int (nI w), .int (nI (greatN A s w t)), .int (nI t), .int (nI c), .int (nI k + 1)] [] h 0 0 (fun o h' => o = .inl (some (.int (nI (greatN A s w (nT A))))) ∧ h' = h) := fun c e => by rw [nI_1, ← e]; exact ih2
        refine e_Mo_partOf_20 hl h _ _ _ _ _ _ _ _ ⟨W.kd, _, o_things hl W, fun c => absurd c (B.in_T hk), fun _ => ⟨_, o_has hl s (nI t), fun c => absurd hb (ite0 c), fun _ => ⟨_, o_has hl s (nI k), fun c => ?_, fun c => ⟨W.kd, _, o_what hl W t10 hw, W.kd, _, o_what hl W k10 hw, fun d => ?_, fun d => ?_⟩⟩⟩⟩
        · rw [Int32.add_zero]; exact st _ (if_neg (fun z => ite0 c z.1))
        · rw [Int32.add_zero]; exact st _ (if_neg (fun z => d z.2.symm))
        · rw [nI_1]; exact st _ (if_pos ⟨ite1 c, d.symm⟩)
    · have e : greatN A s w (t + 1) = greatN A s w t := by show (if bit1 s t = 1 then _ else _) = _; rw [if_neg hb]; rfl
      rw [e] at ih
      have e0 : imax (nI (greatN A s w t)) 0 = nI (greatN A s w t) := by
        rw [show (0 : Int32) = nI 0 from rfl, imax_nI (by omega) (by decide), Nat.max_eq_left (Nat.zero_le _)]
      refine e_Mo_partOf_20 hl h _ _ _ _ _ _ _ _ ⟨W.kd, _, o_things hl W, fun c => absurd c (fun q => B.in_T (by omega : 0 < nT A) q), fun _ => ⟨_, o_has hl s (nI t), fun c => ?_, fun c => absurd (ite1 c) hb⟩⟩
      rw [nI_1, e0]; exact ih
theorem t_ask (hl : G.1.stackTraces = false) (V : VlyAt h v A la) (B : Bd A) (s : Int32) : EvI G m_Td_bestQuestion [.ref v, .int s] h (askF A s) := by
  unfold askF
  refine en_Td_bestQuestion h _ _ _ (e_Td_bestQuestion_0 hl h _ _ _ ⟨_, j_bitCount hl s, fun c => ?_, fun c => ⟨by rw [if_neg c], rfl⟩⟩)
  rw [if_pos c]
  refine for_up (Q := fun w => Ev G m_Td_bestQuestion 18 [.ref v, .int s, .int (lp (qS A s) w (-1, 11)).1, .int (nI (lp (qS A s) w (-1, 11)).2), .int (nI w), un] [] h 0 0 (fun o h' => o = .inl (some (.int (lp (qS A s) 3 (-1, 11)).1)) ∧ h' = h)) (n := 3) ?_ (fun w hw ih => ?_) 0 (Nat.zero_le _)
  · exact e_Td_bestQuestion_18 hl h _ _ _ _ _ _ ⟨fun _ => ⟨rfl, rfl⟩, fun c => absurd (by decide) c⟩
  · have q1 := qS_b (A := A) (s := s) (k := 11) B (Nat.le_refl _) (by decide) w
    have g1 := greatN_le (A := A) (s := s) (w := w) (nT A)
    have b10 := B.2.2.2
    have ih' : ∀ s', qS A s w (lp (qS A s) w (-1, 11)) = s' → Ev G m_Td_bestQuestion 18 [.ref v, .int s, .int s'.1, .int (nI s'.2), .int (nI w + 1), un] [] h 0 0 (fun o h' => o = .inl (some (.int (lp (qS A s) 3 (-1, 11)).1)) ∧ h' = h) := fun s' e => by rw [nI_1, ← e]; exact ih
    refine e_Td_bestQuestion_18 hl h _ _ _ _ _ _ ⟨fun c => absurd c (nI_ge hw (by decide)), fun _ => ⟨_, t_great hl V B s hw, fun c => ?_, fun c => ?_⟩⟩
    · have := (nI_leI q1 (by omega)).mp c
      exact ih' _ (qS_n (by omega))
    · have : ¬ _ ≤ greatN A s w (nT A) := fun z => c (nI_le z (by omega))
      exact ih' (nI w, greatN A s w (nT A)) (qS_p (Nat.lt_of_not_le this))
theorem o_ask40 (hl : G.1.stackTraces = false) (W : WldAt h m A) (B : Bd A) (s : Int32) {P : Res → Hp → Prop} (fin : P (.inl (some (.int (askF A s)))) h) : Ev G m_Mo_ask 40 [.ref m, .int s, .int (-1), .int 1000000, .int 0, un] [] h 0 0 P := by
  unfold askF at fin
  by_cases hb : 2 ≤ bcF s
  · rw [if_pos hb, ← qS_3 (k := 1000000) B (by decide)] at fin
    refine for_up (Q := fun w => Ev G m_Mo_ask 40 [.ref m, .int s, .int (lp (qS A s) w (-1, 1000000)).1, .int (nI (lp (qS A s) w (-1, 1000000)).2), .int (nI w), un] [] h 0 0 P) (n := 3) ?_ (fun w hw ih => ?_) 0 (Nat.zero_le _)
    · exact e_Mo_ask_40 hl h _ _ _ _ _ _ ⟨fun _ => fin, fun c => absurd (by decide) c⟩
    · have q1 := qS_b (A := A) (s := s) (k := 1000000) B (by decide) (by decide) w
      have g1 := greatN_le (A := A) (s := s) (w := w) (nT A)
      have b10 := B.2.2.2
      have ih' : ∀ s', qS A s w (lp (qS A s) w (-1, 1000000)) = s' → Ev G m_Mo_ask 40 [.ref m, .int s, .int s'.1, .int (nI s'.2), .int (nI w + 1), un] [] h 0 0 P := fun s' e => by rw [nI_1, ← e]; exact ih
      refine e_Mo_ask_40 hl h _ _ _ _ _ _ ⟨fun c => absurd c (nI_nlt (b := w) (a := 2) (by omega) (by decide)), fun _ => ⟨_, j_bitCount hl s, fun c => absurd hb (le1_iff.mp c), fun _ => ⟨W.kd, _, o_part hl W B s hw, fun c => ?_, fun c => ?_⟩⟩⟩
      · have := (nI_leI q1 (by omega)).mp c
        rw [imin_nI q1 (by omega), Nat.min_eq_left this]
        exact ih' _ (qS_n (by omega))
      · have : ¬ _ ≤ greatN A s w (nT A) := fun z => c (nI_le z (by omega))
        rw [imin_nI q1 (by omega), Nat.min_eq_right (by omega)]
        exact ih' (nI w, greatN A s w (nT A)) (qS_p (Nat.lt_of_not_le this))
  · rw [if_neg hb] at fin
    exact e_Mo_ask_40 hl h _ _ _ _ _ _ ⟨fun c => absurd c (by decide), fun _ => ⟨_, j_bitCount hl s, fun _ => fin, fun c => absurd (le1_iff.mpr hb) c⟩⟩
end TOLD2
