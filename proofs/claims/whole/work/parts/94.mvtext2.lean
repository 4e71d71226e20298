/-! ===== a valley's text: the reference's lines ===== -/
section MVT2
variable {G : Gx} {h h' : Hp} {tk : Nat → Nat} {m : Nat} {A A' : Vs} {b : Nat → Nat} {n u q q1 : Nat}
theorem o_tied (hl : G.1.stackTraces = false) (hm : G.n0 ≤ m) {h0 : Hp} {a g : Nat} {o : Int32} (E : ME G h m tk (up (addP A (nI a) (nI g) (-1) 0) 3 (nP A) o) b u) (R : RsA h m b u q) (hp : nP A < 7) (F : Fs (mF m) h0 h) : Ev G m_Mo_readPerson 87 [.ref m, un, un, un, .int (nI (nP A))] [] h 0 0 (mL G h0 m tk b u (tyL A b u q a g o)) := by
  refine e_Mo_readPerson_87 hl h _ _ _ ⟨_, E.W.r1, _, o_pAt hl (nP A) 3, E.kd, _, o_passes hl hm E.1 E.2.2.1 R (E.lit (i := 4) (by decide)) (o := 7) (by decide) (by decide), fun o1 h1 z => Or.inl ⟨_, z.1, ?_⟩⟩
  obtain ⟨-, R1, B1, F1⟩ := z
  have E1 := E.kS hm F1
  unfold tyL
  refine ⟨fun c => ⟨E1.W.wr hm (by omega), ?_⟩, fun c => ⟨E1.W.wr hm (by omega), ?_⟩⟩
  · rw [if_neg (ite0 c)] at R1
    rw [if_neg (ite0 c), if_neg (ite0 c), nI_clamp (by omega)]
    have W2 := E1.W.set (k := 1 + 3) (j := nP A) (dP (by omega) hp) (adP (by omega)) 0
    have F2 : Fs (mW m) h1 (hset h1 (m + 1) (9 + 5 * nP A + 3) (.int 0)) := Fs.rf.set (mW_at (by omega) (by omega))
    rw [show (1 + 3 : Nat) = 4 from rfl, addP_upd] at W2
    exact e_Mo_readPerson_112 hl _ _ (mL_ok (E1.kW hm W2 F2) ((F.tr (mF_s F1)).tr (mF_w F2)) (R1.kW F2))
  · rw [if_pos (ite1 c)] at R1
    rw [if_pos (ite1 c), if_pos (ite1 c), nI_clamp (by omega)]
    have W2 := E1.W.set (k := 1 + 3) (j := nP A) (dP (by omega) hp) (adP (by omega)) 1
    have F2 : Fs (mW m) h1 (hset h1 (m + 1) (9 + 5 * nP A + 3) (.int 1)) := Fs.rf.set (mW_at (by omega) (by omega))
    rw [show (1 + 3 : Nat) = 4 from rfl, addP_upd] at W2
    exact e_Mo_readPerson_112 hl _ _ (mL_ok (E1.kW hm W2 F2) ((F.tr (mF_s F1)).tr (mF_w F2)) (R1.kW F2))
/-- born, an heir named -/
theorem o_named (hl : G.1.stackTraces = false) (hm : G.n0 ≤ m) {h0 : Hp} {a g : Nat} {o : Int32} (E : ME G h m tk A b u) (B : Bd A) (R : RsA h m b u q) (hp : nP A < 7) (F : Fs (mF m) h0 h) : ∃ Q : Res → Hp → Prop, EvM G m_Mo_isBorn [.ref m, .int (nI a), .int (nI g)] h Q ∧ ∀ (o1 : Res) (h1 : Hp), Q o1 h1 → (∃ x, o1 = .inl (some (.int x)) ∧ ∃ y, fR h1 11 m 1 y ∧ ∃ x2, EvI G m_Mo_personAt [.int x, .int (2 : Int32)] h1 x2 ∧ aW G h1 101 y x2 ∧ Ev G m_Mo_readPerson 87 [.ref m, un, un, un, .int x] [] (hset h1 y (Int32.toNatClampNeg x2) (.int o)) 0 0 (mL G h0 m tk b u (tyL A b u q a g o))) := by
  refine ⟨_, o_isBorn hl hm E.W B hp (nI a) (nI g), fun o1 h1 z => ?_⟩
  obtain ⟨z1, W1, F1⟩ := z
  refine ⟨_, z1, _, W1.r1, nI (9 + 5 * nP A + 2), by rw [B.1]; exact o_pAt hl (nP A) 2, W1.wr hm (by omega), ?_⟩
  rw [nI_clamp (by omega), B.1]
  have W2 := W1.set (k := 1 + 2) (j := nP A) (dP (by omega) hp) (adP (by omega)) o
  have F2 : Fs (mW m) h1 (hset h1 (m + 1) (9 + 5 * nP A + 2) (.int o)) := Fs.rf.set (mW_at (by omega) (by omega))
  exact o_tied hl hm (E.kW hm W2 (F1.tr F2)) (R.kW (F1.tr F2)) hp (F.tr (mF_w (F1.tr F2)))
theorem o_person (hl : G.1.stackTraces = false) (hm : G.n0 ≤ m) (E : ME G h m tk A b u) (B : Bd A) (L : LtA h m b u q) (ht : tok b u q = 3) : EvM G m_Mo_readPerson [.ref m] h (mL G h m tk b u (perL A b u q)) := by
  have h7 := B.2.1
  have R := L.rs (by decide) (by decide) ht
  unfold perL
  refine en_Mo_readPerson h _ _ (e_Mo_readPerson_0 hl h _ _ ⟨E.kd, _, o_people hl E.W, fun c => ?_, fun c => ?_⟩)
  · have c' : ¬ 7 ≤ nP A := fun z => c (by rw [B.1, show nP A = 7 by omega]; rfl)
    rw [if_neg c']
    rcases e1 : nam b u 4 0 99 (nx b u q) with ⟨qa, _ | a⟩
    · refine ⟨E.kd, _, o_behind hl hm E R (i := 1) (lo := 0) (hi := 99) (by decide) rfl (by decide) (by decide) (by omega) (by omega) e1, fun o2 h2 z => Or.inl ⟨_, z.1, fun d => absurd d not_m1, fun _ => ⟨fun d => absurd d not_m1, fun _ => ?_⟩⟩⟩
      exact mL_no (E.kS hm z.2.1) (mF_s z.2.1) z.2.2
    · have ab := (nam_b e1).2
      refine ⟨E.kd, _, o_behind hl hm E R (i := 1) (lo := 0) (hi := 99) (by decide) rfl (by decide) (by decide) (by omega) (by omega) e1, fun o2 h2 z => Or.inl ⟨_, z.1, fun _ => ?_, fun d => absurd (nI_le (a := 0) (Nat.zero_le _) (by omega)) d⟩⟩
      obtain ⟨-, F2, R2⟩ := z
      have E2 := E.kS hm F2
      show (h2.1 m).1 = 11 ∧ _
      rw [show (bnd ((qa, some a) : Nat × Option Nat) fun q1 a => bnd (nam b u 5 0 9 q1) fun q2 g => if tok b u q2 = 6 then bnd (liv A b u (nx b u q2)) fun q3 o => tyL A b u q3 a g (nI o) else tyL A b u q2 a g (-1)) = bnd (nam b u 5 0 9 qa) fun q2 g => if tok b u q2 = 6 then bnd (liv A b u (nx b u q2)) fun q3 o => tyL A b u q3 a g (nI o) else tyL A b u q2 a g (-1) from rfl]
      rcases e2 : nam b u 5 0 9 qa with ⟨qb, _ | g⟩
      · refine ⟨E2.kd, _, o_behind hl hm E2 R2 (i := 2) (lo := 0) (hi := 9) (by decide) rfl (by decide) (by decide) (by omega) (by omega) e2, fun o3 h3 z => Or.inl ⟨_, z.1, fun d => absurd d not_m1, fun _ => ?_⟩⟩
        exact mL_no (E2.kS hm z.2.1) (mF_s (F2.tr z.2.1)) z.2.2
      · have gb := (nam_b e2).2
        refine ⟨E2.kd, _, o_behind hl hm E2 R2 (i := 2) (lo := 0) (hi := 9) (by decide) rfl (by decide) (by decide) (by omega) (by omega) e2, fun o3 h3 z => Or.inl ⟨_, z.1, fun _ => ?_, fun d => absurd (nI_le (a := 0) (Nat.zero_le _) (by omega)) d⟩⟩
        obtain ⟨-, F3, R3⟩ := z
        have E3 := E2.kS hm F3
        show (h3.1 m).1 = 11 ∧ _
        rw [show (bnd ((qb, some g) : Nat × Option Nat) fun q2 g => if tok b u q2 = 6 then bnd (liv A b u (nx b u q2)) fun q3 o => tyL A b u q3 a g (nI o) else tyL A b u q2 a g (-1)) = (if tok b u qb = 6 then bnd (liv A b u (nx b u qb)) fun q3 o => tyL A b u q3 a g (nI o) else tyL A b u qb a g (-1)) from rfl]
        refine ⟨E3.kd, _, o_passes hl hm E3.1 E3.2.2.1 R3 (E3.lit (i := 3) (by decide)) (o := 6) (by decide) (by decide), fun o4 h4 z => Or.inl ⟨_, z.1, fun d => ?_, fun d => ?_⟩⟩
        · obtain ⟨-, R4, -, F4⟩ := z
          rw [if_neg (ite0 d)] at R4
          rw [if_neg (ite0 d)]
          have E4 := E3.kS hm F4
          obtain ⟨Q, k1, k2⟩ := o_named hl hm (a := a) (g := g) (o := -1) E4 B R4 (by omega) (mF_s ((F2.tr F3).tr F4))
          exact ⟨E4.kd, Q, k1, fun o5 h5 z => Or.inl (k2 o5 h5 z)⟩
        · obtain ⟨-, R4, -, F4⟩ := z
          rw [if_pos (ite1 d)] at R4
          rw [if_pos (ite1 d)]
          have E4 := E3.kS hm F4
          rcases e4 : liv A b u (nx b u qb) with ⟨qc, _ | o⟩
          · refine ⟨E4.kd, _, o_livingNumber hl hm E4 B R4 e4, fun o5 h5 z => Or.inl ⟨_, z.1, fun d => absurd d not_m1, fun _ => ?_⟩⟩
            exact mL_no (E4.kS hm z.2.1) (mF_s (((F2.tr F3).tr F4).tr z.2.1)) z.2.2
          · have ob := (liv_b e4).1
            refine ⟨E4.kd, _, o_livingNumber hl hm E4 B R4 e4, fun o5 h5 z => Or.inl ⟨_, z.1, fun _ => ?_, fun d => absurd (nI_le (a := 0) (Nat.zero_le _) (by omega)) d⟩⟩
            obtain ⟨-, F5, R5⟩ := z
            have E5 := E4.kS hm F5
            obtain ⟨Q, k1, k2⟩ := o_named hl hm (a := a) (g := g) (o := nI o) E5 B R5 (by omega) (mF_s (((F2.tr F3).tr F4).tr F5))
            exact ⟨E5.kd, Q, k1, fun o5 h5 z => Or.inl (k2 o5 h5 z)⟩
  · have c' : 7 ≤ nP A := by
      rw [B.1] at c
      have := (nI_eq (b := 7) (by omega) (by omega)).mp c; omega
    rw [if_pos c']; exact mL_no E Fs.rf L.2.2.2
theorem o_heir (hl : G.1.stackTraces = false) (hm : G.n0 ≤ m) (E : ME G h m tk A b u) (B : Bd A) (L : LtA h m b u q) (ht : tok b u q = 6) : EvM G m_Mo_readHeir [.ref m] h (mL G h m tk b u (herL A b u q)) := by
  have h7 := B.2.1
  have R := L.rs (by decide) (by decide) ht
  unfold herL
  rcases e1 : liv A b u (nx b u q) with ⟨qa, _ | p⟩
  · refine en_Mo_readHeir h _ _ (e_Mo_readHeir_0 hl h _ _ ⟨E.kd, _, o_livingNumber hl hm E B R e1, fun o1 h1 z => Or.inl ⟨_, z.1, fun d => absurd d not_m1, fun _ => ⟨fun _ => ?_, fun d => absurd lt_m1 d⟩⟩⟩)
    exact mL_no (E.kS hm z.2.1) (mF_s z.2.1) z.2.2
  · have pb := (liv_b e1).1
    refine en_Mo_readHeir h _ _ (e_Mo_readHeir_0 hl h _ _ ⟨E.kd, _, o_livingNumber hl hm E B R e1, fun o1 h1 z => Or.inl ⟨_, z.1, fun _ => ?_, fun d => absurd (nI_le (a := 0) (Nat.zero_le _) (by omega)) d⟩⟩)
    obtain ⟨-, F1, R1⟩ := z
    have E1 := E.kS hm F1
    show (h1.1 m).1 = 11 ∧ _
    rw [show (bnd ((qa, some p) : Nat × Option Nat) fun q1 p => if vl b u q1 = p then (q1, none) else bnd (liv A b u q1) fun q2 o => (q2, some (up A 3 p (nI o)))) = (if vl b u qa = p then (qa, none) else bnd (liv A b u qa) fun q2 o => (q2, some (up A 3 p (nI o)))) from rfl]
    rcases e2 : liv A b u qa with ⟨qb, _ | o⟩
    · have eq : qb = qa := by
        rcases liv_c e2 with ⟨-, -, z⟩ | ⟨-, z, -⟩
        · cases z
        · exact z
      subst eq
      refine ⟨E1.kd, _, o_livingNumber hl hm E1 B R1 e2, fun o2 h2 z => Or.inl ⟨_, z.1, fun _ => ?_, fun d => absurd lt_m1 d⟩⟩
      have : (if vl b u qb = p then ((qb, none) : Nat × Option Vs) else bnd ((qb, none) : Nat × Option Nat) fun q2 o => (q2, some (up A 3 p (nI o)))) = (qb, none) := by split <;> rfl
      rw [this]
      exact mL_no (E1.kS hm z.2.1) (mF_s (F1.tr z.2.1)) z.2.2
    · have ob := (liv_b e2).1
      have ov : o = vl b u qa ∧ qb = nx b u qa := by
        rcases liv_c e2 with ⟨-, y, z⟩ | ⟨-, -, z⟩
        · cases z; exact ⟨rfl, y⟩
        · cases z
      refine ⟨E1.kd, _, o_livingB hl hm E1 B R1 e2, fun o2 h2 z => Or.inl ⟨_, z.1.1, fun d => absurd d (nI_pos (by omega)), fun _ => ?_⟩⟩
      obtain ⟨⟨-, F2, R2⟩, B2⟩ := z
      have E2 := E1.kS hm F2
      refine ⟨fun c => ?_, fun c => ?_⟩
      · rw [if_neg (fun z => c (by show nI o = nI p; rw [ov.1, z]))]
        refine ⟨_, E2.W.r1, _, o_pAt hl p 2, E2.W.wr hm (by omega), ?_⟩
        rw [nI_clamp (by omega)]
        have W3 := E2.W.set (k := 1 + 2) (j := p) (dP (by omega) (by omega)) (adP (by omega)) (nI o)
        have F3 : Fs (mW m) h2 (hset h2 (m + 1) (9 + 5 * p + 2) (.int (nI o))) := Fs.rf.set (mW_at (by omega) (by omega))
        exact e_Mo_readHeir_40 hl _ _ (mL_ok (E2.kW hm W3 F3) ((mF_s (F1.tr F2)).tr (mF_w F3)) (RsA.kW R2 F3))
      · have c' : o = p := (nI_eq (by omega) (by omega)).mp c
        rw [if_pos (by rw [← ov.1, c'])]
        exact mL_no E2 (mF_s (F1.tr F2)) B2
theorem o_where (hl : G.1.stackTraces = false) (hm : G.n0 ≤ m) (E : ME G h m tk A b u) (W : Wf A) (R : RsA h m b u q) {t : Nat} (ht : t < 10) (e1 : A 0 1 = nI t + 1) : EvM G m_Mo_readWhere [.ref m] h (mL G h m tk b u (plcL A b u q t)) := by
  have B := W.1
  have h7 := B.2.1
  have et : A 0 1 - 1 = nI t := by rw [e1]; grind
  unfold plcL
  refine en_Mo_readWhere h _ _ (e_Mo_readWhere_0 hl h _ _ ⟨E.kd, _, o_things hl E.W, E.kd, _, o_passes hl hm E.1 E.2.2.1 R (E.lit (i := 9) (by decide)) (o := 12) (by decide) (by decide), fun o1 h1 z => Or.inl ⟨_, z.1, fun c => ?_, fun c => ?_⟩⟩)
  · obtain ⟨-, R1, -, F1⟩ := z
    have c' := ite1 c
    rw [if_pos c'] at R1
    rw [if_pos c', if_pos c']
    have E1 := E.kS hm F1
    rcases e2 : liv A b u (nx b u q) with ⟨qb, _ | p⟩
    · have eq : qb = nx b u q := by
        rcases liv_c e2 with ⟨-, -, z⟩ | ⟨-, z, -⟩
        · cases z
        · exact z
      subst eq
      refine ⟨E1.kd, _, o_livingNumber hl hm E1 B R1 e2, fun o2 h2 z => Or.inl ⟨_, z.1, fun _ => ?_, fun d => absurd lt_m1 d⟩⟩
      have : (if holdF A (nI (vl b u (nx b u q))) = -1 then bnd ((nx b u q, none) : Nat × Option Nat) fun q1 p => ((q1, some (mvA A t 1 (nI p))) : Nat × Option Vs) else (nx b u q, none)) = (nx b u q, none) := by split <;> rfl
      rw [this]
      exact mL_no (E1.kS hm z.2.1) (mF_s (F1.tr z.2.1)) z.2.2
    · have pb := (liv_b e2).1
      have pv : p = vl b u (nx b u q) := by
        rcases liv_c e2 with ⟨-, -, z⟩ | ⟨-, -, z⟩
        · cases z; rfl
        · cases z
      refine ⟨E1.kd, _, o_livingB hl hm E1 B R1 e2, fun o2 h2 z => Or.inl ⟨_, z.1.1, fun d => absurd d (nI_pos (by omega)), fun _ => ⟨fun d => absurd d one0, fun _ => ?_⟩⟩⟩
      obtain ⟨⟨-, F2, R2⟩, B2⟩ := z
      have E2 := E1.kS hm F2
      refine ⟨E2.kd, _, o_heldBy hl E2.W W _, fun d => ⟨fun d => absurd d one0, fun _ => ?_⟩, fun d => ?_⟩
      · rw [if_pos (show holdF A (nI (vl b u (nx b u q))) = -1 by rw [← pv]; exact d), et]
        refine ⟨E2.kd, _, o_lies hl hm E2.W ht 1 (nI p) (fun z => absurd z (by decide)), fun o3 h3 z => Or.inl ⟨z.1, ?_⟩⟩
        exact mL_ok (E2.kW hm z.2.1 z.2.2) ((mF_s (F1.tr F2)).tr (mF_w z.2.2)) (RsA.kW R2 z.2.2)
      · rw [if_neg (show ¬ holdF A (nI (vl b u (nx b u q))) = -1 by rw [← pv]; exact d)]
        exact mL_no E2 (mF_s (F1.tr F2)) B2
  · obtain ⟨-, R1, -, F1⟩ := z
    have c' := ite0 c
    rw [if_neg c'] at R1
    rw [if_neg c', if_neg c']
    have E1 := E.kS hm F1
    refine ⟨E1.kd, _, o_passes hl hm E1.1 E1.2.2.1 R1 (E1.lit (i := 10) (by decide)) (o := 13) (by decide) (by decide), fun o2 h2 z => Or.inl ⟨_, z.1, fun d => ?_, fun d => ?_⟩⟩
    · obtain ⟨-, R2, -, F2⟩ := z
      rw [if_pos (ite1 d)] at R2
      rw [if_pos (ite1 d)]
      have E2 := E1.kS hm F2
      rcases e2 : liv A b u (nx b u q) with ⟨qb, _ | p⟩
      · refine ⟨E2.kd, _, o_livingNumber hl hm E2 B R2 e2, fun o3 h3 z => Or.inl ⟨_, z.1, fun _ => ?_, fun d => absurd lt_m1 d⟩⟩
        exact mL_no (E2.kS hm z.2.1) (mF_s ((F1.tr F2).tr z.2.1)) z.2.2
      · have pb := (liv_b e2).1
        refine ⟨E2.kd, _, o_livingNumber hl hm E2 B R2 e2, fun o3 h3 z => Or.inl ⟨_, z.1, fun d => absurd d (nI_pos (by omega)), fun _ => ⟨fun _ => ⟨fun _ => ?_, fun d => absurd rfl d⟩, fun d => absurd rfl d⟩⟩⟩
        obtain ⟨-, F3, R3⟩ := z
        have E3 := E2.kS hm F3
        rw [et]
        refine ⟨E3.kd, _, o_lies hl hm E3.W ht 2 (nI p) (fun z => absurd z (by decide)), fun o4 h4 z => Or.inl ⟨z.1, ?_⟩⟩
        exact mL_ok (E3.kW hm z.2.1 z.2.2) ((mF_s ((F1.tr F2).tr F3)).tr (mF_w z.2.2)) (RsA.kW R3 z.2.2)
    · obtain ⟨-, R2, -, F2⟩ := z
      rw [if_neg (ite0 d)] at R2
      rw [if_neg (ite0 d)]
      exact mL_ok (E1.kS hm F2) (mF_s (F1.tr F2)) R2
theorem o_thing (hl : G.1.stackTraces = false) (hm : G.n0 ≤ m) (E : ME G h m tk A b u) (W : Wf A) (L : LtA h m b u q) (ht : tok b u q = 8) : EvM G m_Mo_readThing [.ref m, .int 0] h (mL G h m tk b u (thgL A b u q)) := by
  have B := W.1
  have h7 := B.2.1
  have h10 := B.2.2.2
  have R := L.rs (by decide) (by decide) ht
  unfold thgL
  refine en_Mo_readThing h _ _ _ (e_Mo_readThing_0 hl h _ _ _ ⟨E.kd, _, o_things hl E.W, fun c => ?_, fun c => ?_⟩)
  · have c' : ¬ 10 ≤ nT A := fun z => c (by rw [B.2.2.1, show nT A = 10 by omega]; rfl)
    rw [if_neg c']
    rcases e1 : nam b u 9 0 99 (nx b u q) with ⟨qa, _ | w⟩
    · refine ⟨E.kd, _, o_behind hl hm E R (i := 6) (lo := 0) (hi := 99) (by decide) rfl (by decide) (by decide) (by omega) (by omega) e1, fun o2 h2 z => Or.inl ⟨_, z.1, fun d => absurd d not_m1, fun _ => ⟨fun d => absurd d not_m1, fun _ => ?_⟩⟩⟩
      exact mL_no (E.kS hm z.2.1) (mF_s z.2.1) z.2.2
    · have ab := (nam_b e1).2
      refine ⟨E.kd, _, o_behind hl hm E R (i := 6) (lo := 0) (hi := 99) (by decide) rfl (by decide) (by decide) (by omega) (by omega) e1, fun o2 h2 z => Or.inl ⟨_, z.1, fun _ => ?_, fun d => absurd (nI_le (a := 0) (Nat.zero_le _) (by omega)) d⟩⟩
      obtain ⟨-, F2, R2⟩ := z
      have E2 := E.kS hm F2
      show (h2.1 m).1 = 11 ∧ _
      rw [show (bnd ((qa, some w) : Nat × Option Nat) fun q1 w => bnd (nam b u 10 1 12 q1) fun q2 s => if tok b u q2 = 11 then bnd (liv A b u (nx b u q2)) fun q3 o => plcL (addT A (nI w) (nI s) (nI o)) b u q3 (nT A) else (q2, none)) = (bnd (nam b u 10 1 12 qa) fun q2 s => if tok b u q2 = 11 then bnd (liv A b u (nx b u q2)) fun q3 o => plcL (addT A (nI w) (nI s) (nI o)) b u q3 (nT A) else (q2, none)) from rfl]
      rcases e2 : nam b u 10 1 12 qa with ⟨qb, _ | s⟩
      · refine ⟨E2.kd, _, o_behind hl hm E2 R2 (i := 7) (lo := 1) (hi := 12) (by decide) rfl (by decide) (by decide) (by omega) (by omega) e2, fun o3 h3 z => Or.inl ⟨_, z.1, fun d => absurd d not_m1, fun _ => ?_⟩⟩
        exact mL_no (E2.kS hm z.2.1) (mF_s (F2.tr z.2.1)) z.2.2
      · have sb := (nam_b e2).2
        refine ⟨E2.kd, _, o_behind hl hm E2 R2 (i := 7) (lo := 1) (hi := 12) (by decide) rfl (by decide) (by decide) (by omega) (by omega) e2, fun o3 h3 z => Or.inl ⟨_, z.1, fun _ => ⟨fun d => absurd rfl d, fun _ => ?_⟩, fun d => absurd (nI_le (a := 0) (Nat.zero_le _) (by omega)) d⟩⟩
        obtain ⟨-, F3, R3⟩ := z
        have E3 := E2.kS hm F3
        show (h3.1 m).1 = 11 ∧ _
        rw [show (bnd ((qb, some s) : Nat × Option Nat) fun q2 s => if tok b u q2 = 11 then bnd (liv A b u (nx b u q2)) fun q3 o => plcL (addT A (nI w) (nI s) (nI o)) b u q3 (nT A) else (q2, none)) = (if tok b u qb = 11 then bnd (liv A b u (nx b u qb)) fun q3 o => plcL (addT A (nI w) (nI s) (nI o)) b u q3 (nT A) else (qb, none)) from rfl]
        refine ⟨E3.kd, _, o_letters hl hm E3.2.2.1 R3, fun o4 h4 z => Or.inl ?_⟩
        obtain ⟨z1, L4, F4⟩ := z
        have E4 := E3.kS hm F4
        refine ⟨z1, E4.kd, _, o_isWord hl E4.1 E4.2.2.1 L4 (E4.lit (i := 8) (by decide)) (o := 11) (by decide) (by decide), fun d => ⟨fun d => absurd d not_m1, fun _ => ?_⟩, fun d => ?_⟩
        · rw [if_neg (ite0 d)]; exact mL_no E4 (mF_s ((F2.tr F3).tr F4)) L4.2.2.2
        · rw [if_pos (ite1 d)]
          have R4 := L4.rs (by decide) (by decide) (ite1 d)
          rcases e4 : liv A b u (nx b u qb) with ⟨qc, _ | o⟩
          · refine ⟨E4.kd, _, o_livingNumber hl hm E4 B R4 e4, fun o5 h5 z => Or.inl ⟨_, z.1, fun d => absurd d not_m1, fun _ => ?_⟩⟩
            exact mL_no (E4.kS hm z.2.1) (mF_s (((F2.tr F3).tr F4).tr z.2.1)) z.2.2
          · have ob := (liv_b e4).1
            refine ⟨E4.kd, _, o_livingNumber hl hm E4 B R4 e4, fun o5 h5 z => Or.inl ⟨_, z.1, fun _ => ?_, fun d => absurd (nI_le (a := 0) (Nat.zero_le _) (by omega)) d⟩⟩
            obtain ⟨-, F5, R5⟩ := z
            have E5 := E4.kS hm F5
            refine ⟨E5.kd, _, o_isThing hl hm E5.W B (by omega) _ _ _, fun o6 h6 z => Or.inl ⟨z.1, fun d => absurd rfl d, fun _ => ?_⟩⟩
            obtain ⟨-, W6, F6⟩ := z
            have E6 := E5.kW hm W6 F6
            have wf : Wf (addT A (nI w) (nI s) (nI o)) := W.thing (by omega) ⟨w, ab, rfl⟩ ⟨s, sb, rfl⟩ (Or.inr ⟨o, ob, rfl, (liv_b e4).2⟩)
            refine ⟨E6.kd, _, o_where hl hm E6 wf (RsA.kW R5 F6) (t := nT A) (by omega) (by unfold addT; rw [up_same, B.2.2.1]), fun o7 h7 z => Or.inl ?_⟩
            exact mL_01 z (fun o h' z => mL_tr ((mF_s (((F2.tr F3).tr F4).tr F5)).tr (mF_w F6)) z)
  · have c' : 10 ≤ nT A := by
      rw [B.2.2.1] at c
      have := (nI_eq (b := 10) (by omega) (by omega)).mp c; omega
    rw [if_pos c']; exact mL_no E Fs.rf L.2.2.2
theorem o_crown (hl : G.1.stackTraces = false) (hm : G.n0 ≤ m) (E : ME G h m tk A b u) (B : Bd A) (L : LtA h m b u q) (ht : tok b u q = 14) : EvM G m_Mo_readThing [.ref m, .int 1] h (mL G h m tk b u (crnL A b u q)) := by
  have h7 := B.2.1
  have h10 := B.2.2.2
  have R := L.rs (by decide) (by decide) ht
  unfold crnL
  refine en_Mo_readThing h _ _ _ (e_Mo_readThing_0 hl h _ _ _ ⟨E.kd, _, o_things hl E.W, fun c => ?_, fun c => ?_⟩)
  · have c' : ¬ 10 ≤ nT A := fun z => c (by rw [B.2.2.1, show nT A = 10 by omega]; rfl)
    rw [if_neg c']
    rcases e1 : nam b u 9 0 99 (nx b u q) with ⟨qa, _ | w⟩
    · refine ⟨E.kd, _, o_behind hl hm E R (i := 6) (lo := 0) (hi := 99) (by decide) rfl (by decide) (by decide) (by omega) (by omega) e1, fun o2 h2 z => Or.inl ⟨_, z.1, fun d => absurd d not_m1, fun _ => ⟨fun d => absurd d not_m1, fun _ => ?_⟩⟩⟩
      exact mL_no (E.kS hm z.2.1) (mF_s z.2.1) z.2.2
    · have ab := (nam_b e1).2
      refine ⟨E.kd, _, o_behind hl hm E R (i := 6) (lo := 0) (hi := 99) (by decide) rfl (by decide) (by decide) (by omega) (by omega) e1, fun o2 h2 z => Or.inl ⟨_, z.1, fun _ => ?_, fun d => absurd (nI_le (a := 0) (Nat.zero_le _) (by omega)) d⟩⟩
      obtain ⟨-, F2, R2⟩ := z
      have E2 := E.kS hm F2
      show (h2.1 m).1 = 11 ∧ _
      rw [show (bnd ((qa, some w) : Nat × Option Nat) fun q1 w => bnd (nam b u 10 1 12 q1) fun q2 s => ((q2, some (addT A (nI w) (nI s) (-1))) : Nat × Option Vs)) = (bnd (nam b u 10 1 12 qa) fun q2 s => (q2, some (addT A (nI w) (nI s) (-1)))) from rfl]
      rcases e2 : nam b u 10 1 12 qa with ⟨qb, _ | s⟩
      · refine ⟨E2.kd, _, o_behind hl hm E2 R2 (i := 7) (lo := 1) (hi := 12) (by decide) rfl (by decide) (by decide) (by omega) (by omega) e2, fun o3 h3 z => Or.inl ⟨_, z.1, fun d => absurd d not_m1, fun _ => ?_⟩⟩
        exact mL_no (E2.kS hm z.2.1) (mF_s (F2.tr z.2.1)) z.2.2
      · have sb := (nam_b e2).2
        refine ⟨E2.kd, _, o_behind hl hm E2 R2 (i := 7) (lo := 1) (hi := 12) (by decide) rfl (by decide) (by decide) (by omega) (by omega) e2, fun o3 h3 z => Or.inl ⟨_, z.1, fun _ => ⟨fun _ => ?_, fun d => absurd d one0⟩, fun d => absurd (nI_le (a := 0) (Nat.zero_le _) (by omega)) d⟩⟩
        obtain ⟨-, F3, R3⟩ := z
        have E3 := E2.kS hm F3
        refine ⟨E3.kd, _, o_isThing hl hm E3.W B (by omega) _ _ _, fun o6 h6 z => Or.inl ⟨z.1, fun _ => ?_, fun d => absurd d one0⟩⟩
        exact mL_ok (E3.kW hm z.2.1 z.2.2) ((mF_s (F2.tr F3)).tr (mF_w z.2.2)) (RsA.kW R3 z.2.2)
  · have c' : 10 ≤ nT A := by
      rw [B.2.2.1] at c
      have := (nI_eq (b := 10) (by omega) (by omega)).mp c; omega
    rw [if_pos c']; exact mL_no E Fs.rf L.2.2.2
theorem o_vline (hl : G.1.stackTraces = false) (hm : G.n0 ≤ m) (E : ME G h m tk A b u) (W : Wf A) (L : LtA h m b u q) : EvM G m_Mo_readValleyLine [.ref m] h (mL G h m tk b u (lineV A b u q)) := by
  have is : ∀ {i o : Nat}, i < 26 → lio i = o → o < 29 → 3 ≤ o → EvI G m_Mo_isWord [.ref m, .ref (G.lit i)] h (if tok b u q = o then 1 else 0) := fun hi e h1 h2 => by
    have S := E.lit hi
    rw [e] at S
    exact o_isWord hl E.1 E.2.2.1 L S h1 h2
  unfold lineV
  refine en_Mo_readValleyLine h _ _ (e_Mo_readValleyLine_0 hl h _ _ ⟨E.kd, _, is (i := 0) (o := 3) (by decide) rfl (by decide) (by decide), fun c => ⟨E.kd, _, is (i := 3) (o := 6) (by decide) rfl (by decide) (by decide), fun d => ⟨E.kd, _, is (i := 5) (o := 8) (by decide) rfl (by decide) (by decide), fun f => ⟨E.kd, _, is (i := 11) (o := 14) (by decide) rfl (by decide) (by decide), fun g => ⟨E.kd, _, is (i := 12) (o := 15) (by decide) rfl (by decide) (by decide), fun k => ⟨E.kd, _, is (i := 13) (o := 16) (by decide) rfl (by decide) (by decide), fun s => ⟨E.kd, _, is (i := 14) (o := 17) (by decide) rfl (by decide) (by decide), fun r => ?_, fun r => ?_⟩, fun s => ?_⟩, fun k => ?_⟩, fun g => ?_⟩, fun f => ?_⟩, fun d => ?_⟩, fun c => ?_⟩)
  · rw [if_neg (ite0 c), if_neg (ite0 d), if_neg (ite0 f), if_neg (ite0 g), if_neg (ite0 k), if_neg (ite0 s), if_neg (ite0 r)]
    exact mL_no E Fs.rf L.2.2.2
  · have t := ite1 r
    rw [if_neg (ite0 c), if_neg (ite0 d), if_neg (ite0 f), if_neg (ite0 g), if_neg (ite0 k), if_neg (ite0 s), if_pos t]
    exact ⟨E.kd, _, o_readNumber hl hm E (L.rs (by decide) (by decide) t) (j := 2) (at_ := 6) (hi := 999) (by decide) rfl (by decide) (by decide), fun o1 h1 z => Or.inl (mL_01 z (fun _ _ z => z))⟩
  · have t := ite1 s
    rw [if_neg (ite0 c), if_neg (ite0 d), if_neg (ite0 f), if_neg (ite0 g), if_neg (ite0 k), if_pos t]
    exact ⟨E.kd, _, o_readNumber hl hm E (L.rs (by decide) (by decide) t) (j := 4) (at_ := 5) (hi := 6) (by decide) rfl (by decide) (by decide), fun o1 h1 z => Or.inl (mL_bret z (fun _ _ z => z))⟩
  · have t := ite1 k
    rw [if_neg (ite0 c), if_neg (ite0 d), if_neg (ite0 f), if_neg (ite0 g), if_pos t]
    exact ⟨E.kd, _, o_readNumber hl hm E (L.rs (by decide) (by decide) t) (j := 3) (at_ := 4) (hi := 100) (by decide) rfl (by decide) (by decide), fun o1 h1 z => Or.inl (mL_bret z (fun _ _ z => z))⟩
  · have t := ite1 g
    rw [if_neg (ite0 c), if_neg (ite0 d), if_neg (ite0 f), if_pos t]
    exact ⟨E.kd, _, o_crown hl hm E W.1 L t, fun o1 h1 z => Or.inl (mL_bret z (fun _ _ z => z))⟩
  · have t := ite1 f
    rw [if_neg (ite0 c), if_neg (ite0 d), if_pos t]
    exact ⟨E.kd, _, o_thing hl hm E W L t, fun o1 h1 z => Or.inl (mL_bret z (fun _ _ z => z))⟩
  · have t := ite1 d
    rw [if_neg (ite0 c), if_pos t]
    exact ⟨E.kd, _, o_heir hl hm E W.1 L t, fun o1 h1 z => Or.inl (mL_bret z (fun _ _ z => z))⟩
  · have t := ite1 c
    rw [if_pos t]
    exact ⟨E.kd, _, o_person hl hm E W.1 L t, fun o1 h1 z => Or.inl (mL_bret z (fun _ _ z => z))⟩
end MVT2
