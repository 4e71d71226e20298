/-! ===== a valley's text: the class, all of it ===== -/
def sttL (A : Vs) (b : Nat → Nat) (u q : Nat) : Nat × Option Vs := if tok b u q = 15 then setL A b u q 3 100 else if tok b u q = 16 then setL A b u q 4 6 else if tok b u q = 17 then setL A b u q 2 999 else (q, none)
section CVT2
variable {G : Gx} {h h' : Hp} {tk : Nat → Nat} {x v : Nat} {A A' : Vs} {la : Nat} {b : Nat → Nat} {n u q q1 : Nat}
theorem r_setting (hl : G.1.stackTraces = false) (hx : G.n0 ≤ x) (hv : x + 27 ≤ v) (E : VE G h x v tk A la b u q) : EvM G m_Vr_readSetting [.ref (x + 16), .ref v, .ref (tk (tok b u q))] h (vL G h x v tk la b u (sttL A b u q)) := by
  have inj : ∀ o, o < 35 → tk (tok b u q) = tk o → tok b u q = o := fun o ho z => E.1.2.1 _ _ tok_lt ho z
  have nj : ∀ o, o < 35 → ¬ tok b u q = o → ¬ tk (tok b u q) = tk o := fun o ho n z => n (inj o ho z)
  unfold sttL
  refine en_Vr_readSetting h _ _ _ _ (e_Vr_readSetting_0 hl h _ _ _ _ ⟨_, E.st (o := 15) (by decide), fun c => ⟨_, E.st (o := 16) (by decide), fun d => ⟨_, E.st (o := 17) (by decide), fun f => ?_, fun f => ?_⟩, fun d => ?_⟩, fun c => ?_⟩)
  · rw [if_neg (fun z => c (by rw [z])), if_neg (fun z => d (by rw [z])), if_neg (fun z => f (by rw [z]))]
    exact vL_no E Fs.rf
  · have t := inj 17 (by decide) f
    rw [if_neg (by omega), if_neg (by omega), if_pos t, t]
    refine ⟨_, E.r, E.k5, _, r_takeNamed hl hx E.1 E.2.1 E.2.2.2 (o := 17) (lo := 0) (hi := 999) (by decide) (by decide) (by omega) (by omega) rfl, fun o1 h1 z => Or.inl ⟨_, z.1, fun y => ?_, fun y => ?_⟩⟩
    · exact (r_set1 hx hv (j := 2) (f := 12) (by omega) rfl E t z (fun _ _ => trivial)).1 (ite0 y)
    · obtain ⟨a, s1, s2, s3, s4⟩ := (r_set1 hx hv (j := 2) (f := 12) (by omega) rfl E t z (fun _ _ => trivial)).2 (ite1 y)
      exact ⟨_, s2, _, s1, s3, e_Vr_readSetting_101 hl _ _ s4⟩
  · have t := inj 16 (by decide) d
    rw [if_neg (by omega), if_pos t, t]
    refine ⟨_, E.r, E.k5, _, r_takeNamed hl hx E.1 E.2.1 E.2.2.2 (o := 16) (lo := 0) (hi := 6) (by decide) (by decide) (by omega) (by omega) rfl, fun o1 h1 z => Or.inl ⟨_, z.1, fun y => ⟨_, E.st (o := 17) (by decide), fun f => ?_, fun f => ?_⟩, fun y => ?_⟩⟩
    · exact (r_set1 hx hv (j := 4) (f := 14) (by omega) rfl E t z (fun _ _ => trivial)).1 (ite0 y)
    · have := inj 17 (by decide) (by rw [t]; exact f); omega
    · obtain ⟨a, s1, s2, s3, s4⟩ := (r_set1 hx hv (j := 4) (f := 14) (by omega) rfl E t z (fun _ _ => trivial)).2 (ite1 y)
      exact ⟨_, s2, _, s1, s3, e_Vr_readSetting_66 hl _ _ s4⟩
  · have t := inj 15 (by decide) c
    rw [if_pos t, t]
    refine ⟨_, E.r, E.k5, _, r_takeNamed hl hx E.1 E.2.1 E.2.2.2 (o := 15) (lo := 0) (hi := 100) (by decide) (by decide) (by omega) (by omega) rfl, fun o1 h1 z => Or.inl ⟨_, z.1, fun y => ⟨_, E.st (o := 16) (by decide), fun f => ⟨_, E.st (o := 17) (by decide), fun w => ?_, fun w => ?_⟩, fun f => ?_⟩, fun y => ?_⟩⟩
    · exact (r_set1 hx hv (j := 3) (f := 13) (by omega) rfl E t z (fun _ _ => trivial)).1 (ite0 y)
    · have := inj 17 (by decide) (by rw [t]; exact w); omega
    · have := inj 16 (by decide) (by rw [t]; exact f); omega
    · obtain ⟨a, s1, s2, s3, s4⟩ := (r_set1 hx hv (j := 3) (f := 13) (by omega) rfl E t z (fun _ _ => trivial)).2 (ite1 y)
      exact ⟨_, s2, _, s1, s3, e_Vr_readSetting_32 hl _ _ s4⟩
theorem r_line (hl : G.1.stackTraces = false) (hx : G.n0 ≤ x) (hv : x + 27 ≤ v) (E : VE G h x v tk A la b u q) (F : Wf A) : EvM G m_Vr_readLine [.ref (x + 16), .ref v] h (vL G h x v tk la b u (lineV A b u q)) := by
  have inj : ∀ o, o < 35 → tk (tok b u q) = tk o → tok b u q = o := fun o ho z => E.1.2.1 _ _ tok_lt ho z
  unfold lineV
  refine en_Vr_readLine h _ _ _ (e_Vr_readLine_0 hl h _ _ _ ⟨_, E.r, E.k5, _, r_token hl E.2.1 E.2.2.2, fun o1 h1 z => Or.inl ⟨_, z.1, ?_⟩⟩)
  rw [z.2]
  refine ⟨_, E.st (o := 3) (by decide), fun c => ⟨_, E.st (o := 6) (by decide), fun d => ⟨_, E.st (o := 8) (by decide), fun f => ⟨_, E.st (o := 14) (by decide), fun g => ?_, fun g => ?_⟩, fun f => ?_⟩, fun d => ?_⟩, fun c => ?_⟩
  · rw [if_neg (fun z => c (by rw [z])), if_neg (fun z => d (by rw [z])), if_neg (fun z => f (by rw [z])), if_neg (fun z => g (by rw [z]))]
    exact ⟨E.kd, _, r_setting hl hx hv E, fun o2 h2 z => Or.inl (vL_bret z (fun _ _ z => z))⟩
  · have t := inj 14 (by decide) g
    rw [if_neg (by omega), if_neg (by omega), if_neg (by omega), if_pos t]
    exact ⟨E.kd, _, r_crown hl hx hv E F.1 t, fun o2 h2 z => Or.inl (vL_bret z (fun _ _ z => z))⟩
  · have t := inj 8 (by decide) f
    rw [if_neg (by omega), if_neg (by omega), if_pos t]
    exact ⟨E.kd, _, r_thing hl hx hv E F t, fun o2 h2 z => Or.inl (vL_bret z (fun _ _ z => z))⟩
  · have t := inj 6 (by decide) d
    rw [if_neg (by omega), if_pos t]
    exact ⟨E.kd, _, r_heir hl hx hv E F.1 t, fun o2 h2 z => Or.inl (vL_bret z (fun _ _ z => z))⟩
  · have t := inj 3 (by decide) c
    rw [if_pos t]
    exact ⟨E.kd, _, r_person hl hx hv E F.1 t, fun o2 h2 z => Or.inl (vL_bret z (fun _ _ z => z))⟩
/-- what reading a valley's text answers: -1, or where it is wrong -/
def vR (R : Nat × Option Vs) : Int32 := if R.2.isSome = true then -1 else nI R.1
def vRd (G : Gx) (h : Hp) (x v : Nat) (la : Nat) (R : Nat × Option Vs) : Res → Hp → Prop := fun o h' => o = .inl (some (.int (vR R))) ∧ Fs (fun a j => rdX x a j ∨ inV v a j) h h' ∧ RdS h' x ∧ R.1 < 2 ^ 31 ∧ ∃ A', VlyAt h' v A' la ∧ ∀ A1, R.2 = some A1 → A1 = A'
theorem vQ_X (F : Fs (vQ x v) h h') : Fs (fun a j => rdX x a j ∨ inV v a j) h h' := F.mono (fun a j z => by
  rcases z with z | z
  · exact Or.inl (by unfold rdQ at z; unfold rdX; omega)
  · exact Or.inr z)
theorem r_lines (hl : G.1.stackTraces = false) (hx : G.n0 ≤ x) (hv : x + 27 ≤ v) (hu : u ≤ 400) {h0 : Hp} : ∀ d k {h : Hp} {A : Vs} {q : Nat}, k + d = 14 → VE G h x v tk A la b u q → Wf A → Fs (fun a j => rdX x a j ∨ inV v a j) h0 h → Ev G m_Vr_read 30 [.ref (x + 16), un, .ref v, .int 0, .int (nI k)] [] h 0 0 (vRd G h0 x v la (lnsV b u d A q)) := by
  intro d
  induction d with
  | zero =>
    intro k h A q hk E F Fr
    refine e_Vr_read_30 hl h _ _ _ _ _ ⟨fun _ => ⟨fun _ => ⟨_, E.r, E.k5, _, r_begin hl E.2.1 E.2.2.2, rfl, Fr, E.2.1, by show q < _; have := E.2.2.2.le; omega, A, E.2.2.1, fun _ z => nomatch z⟩, fun c => absurd rfl c⟩, fun c => absurd (nI_le (a := 14) (by omega) (by omega)) c⟩
  | succ d ih =>
    intro k h A q hk E F Fr
    show Ev G m_Vr_read 30 _ [] h 0 0 (vRd G h0 x v la (bnd (lineV A b u q) fun q1 A1 => if tok b u q1 = 0 then (q1, some A1) else if tok b u q1 = 29 then lnsV b u d A1 (nx b u q1) else (q1, none)))
    refine e_Vr_read_30 hl h _ _ _ _ _ ⟨fun c => absurd c (nI_ge (b := 14) (by omega) (by omega)), fun _ => ⟨fun c => absurd rfl c, fun _ => ⟨E.kd, _, r_line hl hx hv E F, fun o1 h1 z => Or.inl ?_⟩⟩⟩
    obtain ⟨z1, F1, A1, E1, z4⟩ := z
    rcases e : lineV A b u q with ⟨qa, _ | B1⟩
    · rw [e] at z1 E1
      refine ⟨_, z1, fun c => absurd rfl c, fun _ => ⟨_, E1.r, E1.k5, _, r_begin hl E1.2.1 E1.2.2.2, rfl, Fr.tr (vQ_X F1), E1.2.1, by show qa < _; have : qa ≤ u := E1.2.2.2.le; omega, A1, E1.2.2.1, fun _ z => nomatch z⟩⟩
    · rw [e] at z1 E1 z4
      have : B1 = A1 := z4 _ rfl
      subst this
      have W1 := lineV_wf F e
      have Fr1 := Fr.tr (vQ_X F1)
      refine ⟨_, z1, fun _ => ⟨_, E1.r, E1.k5, _, r_token hl E1.2.1 E1.2.2.2, fun o2 h2 y => Or.inl ⟨_, y.1, ?_⟩⟩, fun c => absurd c one0⟩
      rw [y.2]
      show ∃ y14, _
      rw [show (bnd ((qa, some B1) : Nat × Option Vs) fun q1 A1 => if tok b u q1 = 0 then (q1, some A1) else if tok b u q1 = 29 then lnsV b u d A1 (nx b u q1) else (q1, none)) = (if tok b u qa = 0 then (qa, some B1) else if tok b u qa = 29 then lnsV b u d B1 (nx b u qa) else (qa, none)) from rfl]
      refine ⟨_, E1.st (o := 0) (by decide), fun c => ⟨fun w => absurd rfl w, fun _ => ⟨_, E1.r, _, E1.st (o := 29) (by decide), E1.k5, _, r_tk hl hx E1 (by decide) (by decide), fun o3 h3 w => Or.inl ⟨_, w.1, fun s => ?_, fun s => ?_⟩⟩⟩, fun c => ⟨fun _ => ?_, fun w => absurd w one0⟩⟩
      · obtain ⟨-, F3, R3⟩ := w
        have t := ite1 s
        rw [if_pos t] at R3
        rw [if_neg (by rw [t]; decide), if_pos t, nI_1]
        exact ih (k + 1) (by omega) (E1.rd hx hv F3 R3) W1 (Fr1.tr (vQ_X (vQ_r F3)))
      · obtain ⟨-, F3, R3⟩ := w
        have t := ite0 s
        rw [if_neg t] at R3
        have E3 := E1.rd hx hv F3 R3
        rw [if_neg (fun z => c (by rw [z])), if_neg t]
        exact ⟨_, E3.r, E3.k5, _, r_begin hl E3.2.1 E3.2.2.2, rfl, Fr1.tr (vQ_X (vQ_r F3)), E3.2.1, by have := E3.2.2.2.le; simp only at this ⊢; omega, B1, E3.2.2.1, fun _ z => nomatch z⟩
      · have t : tok b u qa = 0 := E1.1.2.1 _ _ tok_lt (by decide) c
        rw [if_pos t, nI_1]
        have fin : ∀ k, Ev G m_Vr_read 30 [.ref (x + 16), un, .ref v, .int 1, .int (nI k)] [] h1 0 0 (vRd G h0 x v la (qa, some B1)) := fun k => e_Vr_read_30 hl _ _ _ _ _ _ ⟨fun _ => ⟨fun w => absurd w one0, fun _ => ⟨rfl, Fr1, E1.2.1, by have := E1.2.2.2.le; simp only at this ⊢; omega, B1, E1.2.2.1, fun _ z => (Option.some.inj z).symm⟩⟩, fun _ => ⟨fun _ => ⟨fun w => absurd w one0, fun _ => ⟨rfl, Fr1, E1.2.1, by have := E1.2.2.2.le; simp only at this ⊢; omega, B1, E1.2.2.1, fun _ z => (Option.some.inj z).symm⟩⟩, fun w => absurd w one0⟩⟩
        exact fin (k + 1)
theorem r_read (hl : G.1.stackTraces = false) (hx : G.n0 ≤ x) (hv : x + 27 ≤ v) (O : Old G h tk) (S : RdS h x) (Tp : TpC h x b n u) (V : VlyAt h v A la) (F : Wf A) : EvM G m_Vr_read [.ref (x + 16), .ref (x + 1), .ref v] h (vRd G h x v la (valV A b u)) := by
  have r9 : fR h 9 (x + 16) 0 (x + 12) := ⟨by rw [S.2.2.1.1], S.2.2.1.2⟩
  refine en_Vr_read h _ _ _ _ (e_Vr_read_0 hl h _ _ _ _ ⟨_, r9, S.kd, _, r_start hl hx O S Tp, fun o1 h1 z => Or.inl ?_⟩)
  obtain ⟨z1, F1, R1⟩ := z
  have E1 : VE G h1 x v tk A la b u (sk b u 0) := ⟨O.kX hx F1, S.kX F1, V.keepF F1 (fun a j _ _ z => by unfold rdX at z; omega), R1⟩
  have Fr : Fs (fun a j => rdX x a j ∨ inV v a j) h h1 := F1.mono (fun _ _ z => Or.inl z)
  refine ⟨z1, _, E1.r, E1.k5, _, r_token hl E1.2.1 E1.2.2.2, fun o2 h2 y => Or.inl ⟨_, y.1, ?_⟩⟩
  rw [y.2]
  unfold valV
  refine ⟨_, E1.st (o := 0) (by decide), fun c => ?_, fun c => ?_⟩
  · rw [if_neg (fun z => c (by rw [z]))]
    exact r_lines hl hx hv Tp.u400 14 0 (by omega) E1 F Fr
  · have t : tok b u (sk b u 0) = 0 := E1.1.2.1 _ _ tok_lt (by decide) c
    rw [if_pos t]
    exact e_Vr_read_30 hl _ _ _ _ _ _ ⟨fun w => absurd w (by decide), fun _ => ⟨fun _ => ⟨fun w => absurd w one0, fun _ => ⟨rfl, Fr, E1.2.1, by have := E1.2.2.2.le; have := Tp.u400; simp only; omega, A, E1.2.2.1, fun _ z => (Option.some.inj z).symm⟩⟩, fun w => absurd w one0⟩⟩
end CVT2
