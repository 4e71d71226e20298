/-! ===== a law's text: the class's atoms and lines ===== -/
section CLA
variable {G : Gx} {h h' h0 : Hp} {tk : Nat → Nat} {x : Nat} {b : Nat → Nat} {u q q1 : Nat} {os os0 : List Int32}
theorem atm_bsc {d : Nat} (h1 : ¬ tok b u q = 30) (h2 : ¬ tok b u q = 23) : atmL b u d q = bscL b u q := by
  cases d with
  | zero => unfold atmL; rw [if_neg (by omega)]
  | succ d => unfold atmL; rw [if_neg h1, if_neg h2]
theorem atm_0 (h1 : tok b u q = 30 ∨ tok b u q = 23) : atmL b u 0 q = (q, none) := by unfold atmL; rw [if_pos h1]
theorem atm_op {d : Nat} (h1 : tok b u q = 30) : atmL b u (d + 1) q = bnd (orL (atmL b u d) b u (nx b u q)) fun q1 a => if tok b u q1 = 31 then (nx b u q1, some a) else (q1, none) := by
  show (if tok b u q = 30 then _ else _) = _
  rw [if_pos h1]
theorem atm_not {d : Nat} (h1 : tok b u q = 23) : atmL b u (d + 1) q = bnd (atmL b u d (nx b u q)) fun q1 a => (q1, some (a.1 ++ [-7], a.2 ++ [(14, 0)])) := by
  show (if tok b u q = 30 then _ else _) = _
  rw [if_neg (by omega), if_pos h1]
/-- a comparison: the sign, and what stands behind it -/
theorem l_right (hl : G.1.stackTraces = false) (hx : G.n0 ≤ x) (hu : u ≤ 400) {a : Lc} {qa : Nat} (E : LE G h x tk b u qa os) (hb : os.length ≤ 2 * qa) (hs : tok b u qa = 33 ∨ tok b u qa = 34) (eo : os = os0 ++ a.1) (Fr : Fs (lQ x) h0 h) {R0 : Nat × Option Lc} (eR : R0 = bnd (sumL b u (nx b u qa)) fun q2 a2 => (q2, some (a.1 ++ [-10] ++ a2.1 ++ [opI (tok b u qa)], a.2 ++ a2.2 ++ [(tok b u qa - 21, 0)]))) :
    ∃ y41, fR h 2 (x + 17) 0 y41 ∧ (h.1 y41).1 = 5 ∧ ∃ Q43 : Res → Hp → Prop, EvM G m_Re_step [.ref y41] h Q43 ∧ ∀ (o44 : Res) (h42 : Hp), Q43 o44 h42 → (o44 = .inl none ∧ (h42.1 (x + 17)).1 = 2 ∧ ∃ Q46 : Res → Hp → Prop, EvM G m_Lr_write [.ref (x + 17), .int (-10 : Int32)] h42 Q46 ∧ ∀ (o47 : Res) (h45 : Hp), Q46 o47 h45 → (o47 = .inl none ∧ (h45.1 (x + 17)).1 = 2 ∧ ∃ Q49 : Res → Hp → Prop, EvM G m_Lr_sum [.ref (x + 17)] h45 Q49 ∧ ∀ (o50 : Res) (h48 : Hp), Q49 o50 h48 → (∃ x51, o50 = .inl (some (.int x51)) ∧ ∃ x52, G.of 1 (tk (tok b u qa)) = .int x52 ∧ (h48.1 (x + 17)).1 = 2 ∧ ∃ Q54 : Res → Hp → Prop, EvM G m_Lr_write [.ref (x + 17), .int x52] h48 Q54 ∧ ∀ (o55 : Res) (h53 : Hp), Q54 o55 h53 → (o55 = .inl none ∧ bret x51 (lP G h0 x tk b u os0 R0 (.inl (some (.int x51))) h53)) ∨ (∃ Ex, o55 = .inr Ex ∧ lP G h0 x tk b u os0 R0 (.inr Ex) h53)) ∨ (∃ Ex, o50 = .inr Ex ∧ lP G h0 x tk b u os0 R0 (.inr Ex) h48)) ∨ (∃ Ex, o47 = .inr Ex ∧ lP G h0 x tk b u os0 R0 (.inr Ex) h45)) ∨ (∃ Ex, o44 = .inr Ex ∧ lP G h0 x tk b u os0 R0 (.inr Ex) h42) := by
  have lt : qa < u := by rcases hs with t | t <;> exact tok_in t (by decide)
  have g := nx_gt (b := b) lt
  have l := nx_le (b := b) lt
  refine ⟨_, E.r, E.k5, _, l_step hl hx E lt, fun o1 h1 z => Or.inl ⟨z.1, ?_⟩⟩
  obtain ⟨-, F1, E1⟩ := z
  refine ⟨E1.kd, _, l_write hl hx E1 _, fun o2 h2 w => Or.inl ⟨w.1, ?_⟩⟩
  obtain ⟨-, F2, os2, E2, e2⟩ := w
  have e2 := e2 (by omega)
  have ln2 : os2.length = os.length + 1 := by rw [e2, List.length_append]; rfl
  refine ⟨E2.kd, _, lr_sum hl hx hu E2 (by omega), fun o3 h3 z => Or.inl ?_⟩
  obtain ⟨z1, F3, os3, E3, z4⟩ := z
  refine ⟨_, z1, _, E3.op tok_lt, E3.kd, _, l_write hl hx E3 _, fun o4 h4 w => Or.inl ⟨w.1, ?_⟩⟩
  obtain ⟨-, F4, os4, E4, e4⟩ := w
  have Fr4 := (((Fr.tr F1).tr F2).tr F3).tr F4
  rcases es : sumL b u (nx b u qa) with ⟨qb, _ | a2⟩
  · rw [es] at E4 eR
    rw [show R0 = (qb, none) from eR]
    exact bret_of (Or.inl rfl) (lP_no E4 Fr4)
  · rw [es] at E4 z4 eR
    have e3 := z4 _ rfl
    obtain ⟨p1, p2, p3, p4⟩ := sumL_po _ _ _ l es
    have ln3 : os3.length = os2.length + a2.1.length := by rw [e3, List.length_append]
    have e4 := e4 (by omega)
    rw [show R0 = (qb, some (a.1 ++ [-10] ++ a2.1 ++ [opI (tok b u qa)], a.2 ++ a2.2 ++ [(tok b u qa - 21, 0)])) from eR]
    refine bret_of (Or.inr rfl) (lP_ok E4 Fr4 ?_)
    rw [e4, e3, e2, eo]; simp only [List.append_assoc]
theorem l_atomS (hl : G.1.stackTraces = false) (hx : G.n0 ≤ x) (hu : u ≤ 400) {d k : Nat} (hd : d ≤ 6)
    (hA : ∀ d', d = d' + 1 → ∀ {h : Hp} {q : Nat} {os : List Int32}, LE G h x tk b u q os → os.length ≤ 2 * q → EvM G (m_Lr_atom (k + 2)) [.ref (x + 17), .int (nI (6 - d'))] h (lP G h x tk b u os (atmL b u d' q)))
    (hO : ∀ d', d = d' + 1 → ∀ {h : Hp} {q : Nat} {os : List Int32}, LE G h x tk b u q os → os.length ≤ 2 * q → EvM G (m_Lr_anyOf (k + 2)) [.ref (x + 17), .int (nI (6 - d'))] h (lP G h x tk b u os (orL (atmL b u d') b u q)))
    (E : LE G h x tk b u q os) (hb : os.length ≤ 2 * q) : EvM G (m_Lr_atom (k + 3)) [.ref (x + 17), .int (nI (6 - d))] h (lP G h x tk b u os (atmL b u d q)) := by
  have qu := E.le
  have nj : ∀ {p o o' : Nat}, o < 35 → o' < 35 → tok b u p = o → o ≠ o' → ¬ tk (tok b u p) = tk o' := fun ho ho' t ne z => ne (t.symm.trans (E.inj ho' z))
  refine en_Lr_atom h _ _ _ (e_Lr_atom_0 hl h _ _ _ ⟨_, E.r, E.k5, _, r_token hl E.2.1 E.2.2.1, fun o1 h1 z => Or.inl ⟨_, z.1, ?_⟩⟩)
  rw [z.2]
  refine ⟨_, E.st (o := 23) (by decide), fun c => ?_, fun c => ⟨_, E.st (o := 30) (by decide), fun c2 => ⟨E.oc tok_lt, _, l_isTruth hl E tok_lt, fun c3 => ?_, fun c3 => ?_⟩, fun c2 => ?_⟩⟩
  · have t : tok b u q = 23 := E.inj (by decide) c
    have lt := tok_in t (by decide)
    have g := nx_gt (b := b) lt
    have l := nx_le (b := b) lt
    refine ⟨fun c1 => ?_, fun c1 => ?_⟩
    · obtain ⟨d', rfl⟩ : ∃ d', d = d' + 1 := ⟨d - 1, by
        have := (nI_ltI (b := 6) (by omega) (by decide)).mp c1
        omega⟩
      rw [atm_not t]
      refine ⟨_, E.r, E.k5, _, l_step hl hx E lt, fun o2 h2 z => Or.inl ⟨z.1, _, E.st (o := 30) (by decide), fun _ => ?_, fun z => absurd z (nj (by decide) (by decide) t (by decide))⟩⟩
      obtain ⟨-, F2, E2⟩ := z
      rw [nI_1, show 6 - (d' + 1) + 1 = 6 - d' by omega]
      refine ⟨E2.kd, _, hA d' rfl E2 (by omega), fun o3 h3 z => Or.inl ?_⟩
      obtain ⟨z1, F3, os3, E3, z4⟩ := z
      refine ⟨_, z1, E3.kd, _, l_write hl hx E3 _, fun o4 h4 w => Or.inl ⟨w.1, ?_⟩⟩
      obtain ⟨-, F4, os4, E4, e4⟩ := w
      rcases es : atmL b u d' (nx b u q) with ⟨qb, _ | a2⟩
      · rw [es] at E4
        exact bret_of (Or.inl rfl) (lP_no E4 ((F2.tr F3).tr F4))
      · rw [es] at E4 z4
        have e3 := z4 _ rfl
        obtain ⟨p1, p2, p3, p4⟩ := atmL_po d' _ _ _ l es
        have ln3 : os3.length = os.length + a2.1.length := by rw [e3, List.length_append]
        have e4 := e4 (by omega)
        refine bret_of (Or.inr rfl) (lP_ok (a := (a2.1 ++ [-7], a2.2 ++ [(14, 0)])) E4 ((F2.tr F3).tr F4) ?_)
        rw [e4, e3]; simp only [List.append_assoc]
    · have d0 : d = 0 := by
        rcases Nat.lt_or_ge 0 d with z | z
        · exact absurd (nI_lt (b := 6) (by omega) (by decide)) c1
        · omega
      subst d0
      rw [atm_0 (Or.inr t)]; exact lP_no E Fs.rf
  · have t1 : ¬ tok b u q = 23 := fun z => c (by rw [z])
    have t2 : ¬ tok b u q = 30 := fun z => c2 (by rw [z])
    rw [atm_bsc t2 t1]
    unfold bscL
    rw [if_neg (ite0 c3)]
    refine ⟨E.kd, _, lr_sum hl hx hu E hb, fun o2 h2 z => Or.inl ?_⟩
    obtain ⟨z1, F2, os2, E2, z4⟩ := z
    rcases es : sumL b u q with ⟨qa, _ | a⟩
    · rw [es] at z1 E2
      exact ⟨_, z1, fun c => absurd rfl c, fun _ => lP_no E2 F2⟩
    · rw [es] at z1 E2 z4
      have e2 := z4 _ rfl
      obtain ⟨p1, p2, p3, p4⟩ := sumL_po _ _ _ qu es
      have ln2 : os2.length = os.length + a.1.length := by rw [e2, List.length_append]
      refine ⟨_, z1, fun _ => ⟨_, E2.r, E2.k5, _, r_token hl E2.2.1 E2.2.2.1, fun o3 h3 y => Or.inl ⟨_, y.1, ?_⟩⟩, fun c => absurd c one0⟩
      rw [y.2]
      show ∃ y40, _
      rw [show (bnd ((qa, some a) : Nat × Option Lc) fun q1 a => if tok b u q1 = 33 ∨ tok b u q1 = 34 then bnd (sumL b u (nx b u q1)) fun q2 a2 => (q2, some (a.1 ++ [-10] ++ a2.1 ++ [opI (tok b u q1)], a.2 ++ a2.2 ++ [(tok b u q1 - 21, 0)])) else (q1, none)) = (if tok b u qa = 33 ∨ tok b u qa = 34 then bnd (sumL b u (nx b u qa)) fun q2 a2 => (q2, some (a.1 ++ [-10] ++ a2.1 ++ [opI (tok b u qa)], a.2 ++ a2.2 ++ [(tok b u qa - 21, 0)])) else (qa, none)) from rfl]
      refine ⟨_, E2.st (o := 33) (by decide), fun s => ?_, fun s => ⟨_, E2.st (o := 34) (by decide), fun s2 => ?_, fun s2 => ?_⟩⟩
      · have t : tok b u qa = 33 := E2.inj (by decide) s
        rw [if_pos (Or.inl t)]
        exact l_right hl hx hu (a := a) E2 (by simp only; omega) (Or.inl t) e2 F2 rfl
      · have t : tok b u qa = 34 := E2.inj (by decide) s2
        rw [if_pos (Or.inr t)]
        exact l_right hl hx hu (a := a) E2 (by simp only; omega) (Or.inr t) e2 F2 rfl
      · rw [if_neg (fun z => z.elim (fun z => s (by rw [z])) (fun z => s2 (by rw [z])))]
        exact lP_no E2 F2
  · have t1 : ¬ tok b u q = 23 := fun z => c (by rw [z])
    have t2 : ¬ tok b u q = 30 := fun z => c2 (by rw [z])
    have c3' := ite1 c3
    have lt := pn_in (b := b) (u := u) (q := q) (by omega)
    rw [atm_bsc t2 t1]
    unfold bscL
    rw [if_pos c3']
    refine ⟨_, E.r, E.k5, _, l_step hl hx E lt, fun o2 h2 z => Or.inl ⟨z.1, ?_⟩⟩
    obtain ⟨-, F2, E2⟩ := z
    refine ⟨_, E2.op tok_lt, E2.kd, _, l_write hl hx E2 _, fun o3 h3 w => Or.inl ⟨w.1, ?_⟩⟩
    obtain ⟨-, F3, os3, E3, e3⟩ := w
    exact lP_ok E3 (F2.tr F3) (e3 (by omega))
  · have t : tok b u q = 30 := E.inj (by decide) c2
    have lt := tok_in t (by decide)
    have g := nx_gt (b := b) lt
    have l := nx_le (b := b) lt
    refine ⟨fun c1 => ?_, fun c1 => ?_⟩
    · obtain ⟨d', rfl⟩ : ∃ d', d = d' + 1 := ⟨d - 1, by
        have := (nI_ltI (b := 6) (by omega) (by decide)).mp c1
        omega⟩
      rw [atm_op t]
      refine ⟨_, E.r, E.k5, _, l_step hl hx E lt, fun o2 h2 z => Or.inl ⟨z.1, _, E.st (o := 30) (by decide), fun z => absurd c2 z, fun _ => ?_⟩⟩
      obtain ⟨-, F2, E2⟩ := z
      rw [nI_1, show 6 - (d' + 1) + 1 = 6 - d' by omega]
      refine ⟨E2.kd, _, hO d' rfl E2 (by omega), fun o3 h3 z => Or.inl ?_⟩
      obtain ⟨z1, F3, os3, E3, z4⟩ := z
      rcases es : orL (atmL b u d') b u (nx b u q) with ⟨qb, _ | a2⟩
      · rw [es] at z1 E3
        exact ⟨_, z1, fun _ => lP_no E3 (F2.tr F3), fun c => absurd rfl c⟩
      · rw [es] at z1 E3 z4
        have e3 := z4 _ rfl
        refine ⟨_, z1, fun c => absurd c one0, fun _ => ⟨_, E3.r, _, E3.st (o := 31) (by decide), E3.k5, _, l_tk hl hx E3 (o := 31) (by decide) (by decide), fun o4 h4 w => Or.inl ⟨_, w.1, fun s => ?_, fun s => ?_⟩⟩⟩
        · obtain ⟨-, F4, E4⟩ := w
          have s' : ¬ tok b u qb = 31 := ite0 s
          have E4' : LE G h4 x tk b u qb os3 := by rw [if_neg s'] at E4; exact E4
          show lP G h x tk b u os (if tok b u qb = 31 then (nx b u qb, some a2) else (qb, none)) _ _
          rw [if_neg s']; exact lP_no E4' ((F2.tr F3).tr F4)
        · obtain ⟨-, F4, E4⟩ := w
          have s' : tok b u qb = 31 := ite1 s
          have E4' : LE G h4 x tk b u (nx b u qb) os3 := by rw [if_pos s'] at E4; exact E4
          show lP G h x tk b u os (if tok b u qb = 31 then (nx b u qb, some a2) else (qb, none)) _ _
          rw [if_pos s']; exact lP_ok E4' ((F2.tr F3).tr F4) e3
    · have d0 : d = 0 := by
        rcases Nat.lt_or_ge 0 d with z | z
        · exact absurd (nI_lt (b := 6) (by omega) (by decide)) c1
        · omega
      subst d0
      rw [atm_0 (Or.inl t)]; exact lP_no E Fs.rf
theorem l_atom (hl : G.1.stackTraces = false) (hx : G.n0 ≤ x) (hu : u ≤ 400) : ∀ d, d ≤ 6 → ∀ k, 3 * d ≤ k → ∀ {h : Hp} {q : Nat} {os : List Int32}, LE G h x tk b u q os → os.length ≤ 2 * q → EvM G (m_Lr_atom (k + 3)) [.ref (x + 17), .int (nI (6 - d))] h (lP G h x tk b u os (atmL b u d q)) := by
  intro d
  induction d with
  | zero => intro hd k hk h q os E hb; exact l_atomS hl hx hu hd (fun d' z => by omega) (fun d' z => by omega) E hb
  | succ d ih =>
    intro hd k hk h q os E hb
    obtain ⟨k', rfl⟩ : ∃ k', k = k' + 3 := ⟨k - 3, by omega⟩
    refine l_atomS hl hx hu hd (fun d' z => ?_) (fun d' z => ?_) E hb
    · obtain rfl : d = d' := by omega
      intro h q os E hb
      exact ih (by omega) (k' + 2) (by omega) E hb
    · obtain rfl : d = d' := by omega
      intro h q os E hb
      exact l_any (k := k' + 1) hl hx hu (atmL_po d) (fun E hb => ih (by omega) k' (by omega) E hb) E hb
theorem l_cond (hl : G.1.stackTraces = false) (hx : G.n0 ≤ x) (hu : u ≤ 400) (E : LE G h x tk b u q os) (hb : os.length ≤ 2 * q) : EvM G (m_Lr_anyOf 40) [.ref (x + 17), .int 0] h (lP G h x tk b u os (orL (atmL b u 6) b u q)) :=
  l_any (k := 36) (dep := nI (6 - 6)) hl hx hu (atmL_po 6) (fun E hb => l_atom hl hx hu 6 (by decide) 35 (by decide) E hb) E hb
end CLA
