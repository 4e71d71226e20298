/-! ===== a valley's text: the class ===== -/
def vQ (x v : Nat) : Nat → Nat → Prop := fun a j => rdQ x a j ∨ inV v a j
def VE (G : Gx) (h : Hp) (x v : Nat) (tk : Nat → Nat) (A : Vs) (la : Nat) (b : Nat → Nat) (u q : Nat) : Prop := Old G h tk ∧ RdS h x ∧ VlyAt h v A la ∧ RdA h x tk b u q
def vL (G : Gx) (h : Hp) (x v : Nat) (tk : Nat → Nat) (la : Nat) (b : Nat → Nat) (u : Nat) (R : Nat × Option Vs) : Res → Hp → Prop := fun o h' => o = .inl (some (.int (if R.2.isSome = true then 1 else 0))) ∧ Fs (vQ x v) h h' ∧ ∃ A', VE G h' x v tk A' la b u R.1 ∧ ∀ A1, R.2 = some A1 → A1 = A'
def tkP (h : Hp) (x : Nat) (tk : Nat → Nat) (b : Nat → Nat) (u q1 : Nat) (w : Option Nat) : Res → Hp → Prop := fun r h' => r = .inl (some (.int (if w.isSome = true then 1 else 0))) ∧ Fs (rdQ x) h h' ∧ RdA h' x tk b u q1 ∧ ∀ a, w = some a → h'.2.1 (x + 12) 5 = .int (nI a)
theorem one0 : ¬ (1 : Int32) = 0 := by decide
theorem b01_ite {c : Prop} [Decidable c] : b01 (if c then 1 else 0) = if c then 1 else 0 := by
  by_cases z : c
  · rw [if_pos z]; rfl
  · rw [if_neg z]; rfl
theorem lv_val {A : Vs} (B : Bd A) {k : Nat} (hk : k < 2 ^ 31) : (if nI k < 0 then (0 : Int32) else if A 0 0 ≤ nI k then 0 else if A 5 (nI k).toNatClampNeg = 1 then 1 else 0) = if k < nP A ∧ A 5 k = 1 then 1 else 0 := by
  have h7 := B.2.1
  rw [if_neg (nI_pos hk), nI_clamp hk]
  by_cases c : k < nP A
  · rw [if_neg (by rw [B.1]; exact nI_ge c (by omega))]
    by_cases d : A 5 k = 1
    · rw [if_pos d, if_pos ⟨c, d⟩]
    · rw [if_neg d, if_neg (fun z => d z.2)]
  · rw [if_pos (by rw [B.1]; exact nI_le (by omega) hk), if_neg (fun z => c z.1)]
section CVT
variable {G : Gx} {h h' : Hp} {tk : Nat → Nat} {x v : Nat} {A A' : Vs} {la : Nat} {b : Nat → Nat} {n u q q1 : Nat}
theorem RdS.kQ (S : RdS h x) (F : Fs (rdQ x) h h') : RdS h' x := S.keep F.1 (fun a j z => F.2.2 a j (by unfold rdQ; omega))
theorem Old.kQ (O : Old G h tk) (hx : G.n0 ≤ x) (F : Fs (rdQ x) h h') : Old G h' tk := O.keepF F (fun a j z => by unfold rdQ at z; omega)
theorem RdA.keep (R : RdA h x tk b u q) (e : ∀ a j, x + 12 ≤ a → a ≤ x + 15 → h'.2.1 a j = h.2.1 a j) : RdA h' x tk b u q := by
  obtain ⟨K, k, ⟨r1, r2, r3, r4, r5⟩, hk, e1, f4⟩ := R
  exact ⟨K, k, ⟨r1, r2, r3, by rw [e _ _ (by omega) (by omega)]; exact r4, fun k hk => by rw [e _ _ (by omega) (by omega), e _ _ (by omega) (by omega), e _ _ (by omega) (by omega)]; exact r5 k hk⟩, hk, e1, by rw [e _ _ (by omega) (by omega)]; exact f4⟩
theorem VE.rd (E : VE G h x v tk A la b u q) (hx : G.n0 ≤ x) (hv : x + 27 ≤ v) (F : Fs (rdQ x) h h') (R : RdA h' x tk b u q1) : VE G h' x v tk A la b u q1 :=
  ⟨E.1.kQ hx F, E.2.1.kQ F, E.2.2.1.keepF F (fun a j _ _ z => by unfold rdQ at z; omega), R⟩
theorem VE.va (E : VE G h x v tk A la b u q) (hx : G.n0 ≤ x) (hv : x + 27 ≤ v) (V : VlyAt h' v A' la) (F : Fs (inV v) h h') : VE G h' x v tk A' la b u q :=
  ⟨E.1.keepF F (fun a j z => by unfold inV at z; omega), E.2.1.keep F.1 (fun a j z => F.2.2 a j (by unfold inV; omega)), V, E.2.2.2.keep (fun a j _ _ => F.2.2 a j (by unfold inV; omega))⟩
theorem vQ_r (F : Fs (rdQ x) h h') : Fs (vQ x v) h h' := F.mono (fun _ _ z => Or.inl z)
theorem vQ_v (F : Fs (inV v) h h') : Fs (vQ x v) h h' := F.mono (fun _ _ z => Or.inr z)
theorem VE.r (E : VE G h x v tk A la b u q) : fR h 9 (x + 16) 0 (x + 12) := ⟨by rw [E.2.1.2.2.1.1], E.2.1.2.2.1.2⟩
theorem VE.kd (E : VE G h x v tk A la b u q) : (h.1 (x + 16)).1 = 9 := by rw [E.2.1.2.2.1.1]
theorem VE.k5 (E : VE G h x v tk A la b u q) : (h.1 (x + 12)).1 = 5 := E.2.1.kd
theorem VE.k8 (E : VE G h x v tk A la b u q) : (h.1 v).1 = 8 := E.2.2.1.kd
theorem VE.st (E : VE G h x v tk A la b u q) {o : Nat} (ho : o < 35) : G.st (sti o) = .ref (tk o) := (E.1.1 o ho).1
theorem vL_no (E : VE G h' x v tk A la b u q) (F : Fs (vQ x v) h h') : vL G h x v tk la b u (q, none) (.inl (some (.int 0))) h' := ⟨rfl, F, A, E, fun _ z => nomatch z⟩
theorem vL_ok (E : VE G h' x v tk A la b u q) (F : Fs (vQ x v) h h') : vL G h x v tk la b u (q, some A) (.inl (some (.int 1))) h' := ⟨rfl, F, A, E, fun _ z => (Option.some.inj z).symm⟩
theorem vL_tr {R : Nat × Option Vs} {o : Res} {h1 : Hp} (F : Fs (vQ x v) h h1) (z : vL G h1 x v tk la b u R o h') : vL G h x v tk la b u R o h' := ⟨z.1, F.tr z.2.1, z.2.2⟩
theorem r_takeNum (hl : G.1.stackTraces = false) (hx : G.n0 ≤ x) (O : Old G h tk) (S : RdS h x) (R : RdA h x tk b u q) {lo hi : Nat} (h1 : lo ≤ 1000) (h2 : hi ≤ 1000) {w : Option Nat} (e : num b u lo hi q = (q1, w)) : EvM G m_Re_takeNumber [.ref (x + 12), .int (nI lo), .int (nI hi)] h (tkP h x tk b u q1 w) := by
  refine (r_takeNumber hl hx O S R h1 h2 (isN b u lo hi q) Iff.rfl).post (fun o h' z => ?_)
  obtain ⟨z1, z2, z3, z4⟩ := z
  rcases num_c e with ⟨c, rfl, rfl⟩ | ⟨c, rfl, rfl⟩
  · rw [if_pos c] at z1 z3
    exact ⟨z1, z2, z3, fun a ea => by cases ea; exact z4 c⟩
  · rw [if_neg c] at z1 z3
    exact ⟨z1, z2, z3, fun a ea => nomatch ea⟩
theorem r_takeNamed (hl : G.1.stackTraces = false) (hx : G.n0 ≤ x) (O : Old G h tk) (S : RdS h x) (R : RdA h x tk b u q) {o lo hi : Nat} (ho : o < 35) (h0 : o ≠ 0) (h1 : lo ≤ 1000) (h2 : hi ≤ 1000) {w : Option Nat} (e : nam b u o lo hi q = (q1, w)) : EvM G m_Re_takeNamed [.ref (x + 12), .ref (tk o), .int (nI lo), .int (nI hi)] h (tkP h x tk b u q1 w) := by
  refine en_Re_takeNamed h _ _ _ _ _ (e_Re_takeNamed_0 hl h _ _ _ _ _ ⟨S.kd, _, r_take hl hx O S R ho h0, fun o1 h1 z => Or.inl ⟨_, z.1, fun c => ?_, fun c => ?_⟩⟩)
  · have c' := ite0 c
    obtain ⟨-, z2, z3⟩ := z
    unfold nam at e
    rw [if_neg c'] at e z3
    obtain ⟨rfl, rfl⟩ := Prod.mk.inj e
    exact ⟨rfl, z2, z3, fun a ea => nomatch ea⟩
  · have c' := ite1 c
    obtain ⟨-, z2, z3⟩ := z
    unfold nam at e
    rw [if_pos c'] at e z3
    refine ⟨(S.kQ z2).kd, _, r_takeNum hl hx (O.kQ hx z2) (S.kQ z2) z3 (by assumption) h2 e, fun o2 h2 y => Or.inl ⟨_, y.1, fun d => ?_, fun d => ?_⟩⟩
    · obtain ⟨-, y2, y3, y4⟩ := y
      have := ite0 d
      exact ⟨by rw [if_neg this], z2.tr y2, y3, y4⟩
    · obtain ⟨-, y2, y3, y4⟩ := y
      have := ite1 d
      exact ⟨by rw [if_pos this], z2.tr y2, y3, y4⟩
theorem r_living (hl : G.1.stackTraces = false) (hx : G.n0 ≤ x) (E : VE G h x v tk A la b u q) (B : Bd A) {w : Option Nat} (e : liv A b u q = (q1, w)) : EvM G m_Vr_takeLiving [.ref (x + 16), .ref v] h (tkP h x tk b u q1 w) := by
  have h7 := B.2.1
  have vb := vl_b (b := b) (u := u) (i := q)
  obtain ⟨O, S, V, R⟩ := E
  have r9 : fR h 9 (x + 16) 0 (x + 12) := VE.r ⟨O, S, V, R⟩
  have vi := v_isLiving hl V B (nI (vl b u q))
  rw [lv_val B (by omega)] at vi
  refine en_Vr_takeLiving h _ _ _ (e_Vr_takeLiving_0 hl h _ _ _ ⟨_, r9, S.kd, _, r_value hl S R, V.kd, _, vi, fun c => ?_, fun c => ⟨_, r9, S.kd, _, r_takeNumber hl hx O S R (lo := 0) (hi := 6) (by omega) (by omega) (isLv A b u q) ?_, fun o1 h1 z => Or.inl ⟨_, z.1, fun d => ?_, fun d => ?_⟩⟩⟩)
  · have c' := ite0 c
    rcases liv_c e with ⟨d, -, -⟩ | ⟨-, rfl, rfl⟩
    · exact absurd d.2 c'
    · exact ⟨rfl, Fs.rf, R, fun a ea => nomatch ea⟩
  · have c' := ite1 c
    exact ⟨fun z => ⟨z.1, by omega, by omega⟩, fun z => ⟨z.1, c'⟩⟩
  · obtain ⟨-, z2, z3, z4⟩ := z
    rcases liv_c e with ⟨y, -, -⟩ | ⟨y, rfl, rfl⟩
    · exact absurd y (ite0 d)
    · rw [if_neg y] at z3; exact ⟨rfl, z2, z3, fun a ea => nomatch ea⟩
  · obtain ⟨-, z2, z3, z4⟩ := z
    rcases liv_c e with ⟨y, rfl, rfl⟩ | ⟨y, -, -⟩
    · rw [if_pos y] at z3; exact ⟨rfl, z2, z3, fun a ea => by cases ea; exact z4 y⟩
    · exact absurd (ite1 d) y
/-- a word that may stand there -/
theorem r_tk (hl : G.1.stackTraces = false) (hx : G.n0 ≤ x) (E : VE G h x v tk A la b u q) {o : Nat} (ho : o < 35) (h0 : o ≠ 0) : EvM G m_Re_take [.ref (x + 12), .ref (tk o)] h (fun r h' => r = .inl (some (.int (if tok b u q = o then 1 else 0))) ∧ Fs (rdQ x) h h' ∧ RdA h' x tk b u (if tok b u q = o then nx b u q else q)) := r_take hl hx E.1 E.2.1 E.2.2.2 ho h0
theorem v_addThing (hl : G.1.stackTraces = false) (hv : G.n0 ≤ v) (V : VlyAt h v A la) (B : Bd A) (ht : nT A < 10) (w s o : Int32) : EvM G m_Va_addThing [.ref v, .int w, .int s, .int o] h (vpost v la h (addT A w s o)) := by
  have hcl : (A 0 1).toNatClampNeg = nT A := rfl
  have V1 := V.set (k := 6) (j := nT A) (Or.inr (Or.inr ⟨by decide, by decide, ht⟩)) (by omega) w
  have V2 := V1.set (k := 7) (j := nT A) (Or.inr (Or.inr ⟨by decide, by decide, ht⟩)) (by omega) s
  have V3 := V2.set (k := 8) (j := nT A) (Or.inr (Or.inr ⟨by decide, by decide, ht⟩)) (by omega) o
  have V4 := V3.set (k := 9) (j := nT A) (Or.inr (Or.inr ⟨by decide, by decide, ht⟩)) (by omega) 0
  have V5 := V4.set (k := 10) (j := nT A) (Or.inr (Or.inr ⟨by decide, by decide, ht⟩)) (by omega) (-1)
  have V6 := V5.set (k := 0) (j := 1) (Or.inl ⟨rfl, by decide⟩) (by omega) (A 0 1 + 1)
  have f : ∀ {h2 : Hp} {B' : Vs}, VlyAt h2 v B' la → B' 0 1 = A 0 1 → fI h2 8 v 6 (A 0 1) := fun V e => by have := V.f6; rw [e] at this; exact this
  have F : Fs (inV v) h h := Fs.rf
  refine en_Va_addThing h _ v _ _ _ (e_Va_addThing_0 hl h _ v _ _ _ ⟨_, V.f6, fun _ => ⟨_, V.r7, _, V.f6, by rw [B.2.2.1]; exact V.w6 hv ht, ?_⟩, fun q => absurd (by rw [B.2.2.1]; exact nI_lt ht (by decide)) q⟩)
  rw [hcl]
  refine e_Va_addThing_20 hl _ _ v _ _ ⟨_, V1.r8, A 0 1, f V1 (by rw [up_ne (by omega)]), by rw [B.2.2.1]; exact V1.w7 hv ht, ?_⟩
  rw [hcl]
  refine e_Va_addThing_30 hl _ _ v _ ⟨_, V2.r9, A 0 1, f V2 (by rw [up_ne (by omega), up_ne (by omega)]), by rw [B.2.2.1]; exact V2.w8 hv ht, ?_⟩
  rw [hcl]
  refine e_Va_addThing_40 hl _ _ v ⟨_, V3.r10, A 0 1, f V3 (by rw [up_ne (by omega), up_ne (by omega), up_ne (by omega)]), by rw [B.2.2.1]; exact V3.w9 hv ht, ?_⟩
  rw [hcl]
  refine e_Va_addThing_50 hl _ _ v ⟨_, V4.r11, A 0 1, f V4 (by rw [up_ne (by omega), up_ne (by omega), up_ne (by omega), up_ne (by omega)]), by rw [B.2.2.1]; exact V4.w10 hv ht, ?_⟩
  rw [hcl]
  refine e_Va_addThing_60 hl _ _ v ⟨A 0 1, f V5 (by rw [up_ne (by omega), up_ne (by omega), up_ne (by omega), up_ne (by omega), up_ne (by omega)]), ⟨hv, V5.kd⟩, rfl, V6, ?_⟩
  exact (((((F.set ⟨by omega, by omega⟩).set ⟨by omega, by omega⟩).set ⟨by omega, by omega⟩).set ⟨by omega, by omega⟩).set ⟨by omega, by omega⟩).set ⟨by omega, by omega⟩
theorem r_person (hl : G.1.stackTraces = false) (hx : G.n0 ≤ x) (hv : x + 27 ≤ v) (E : VE G h x v tk A la b u q) (B : Bd A) (ht : tok b u q = 3) : EvM G m_Vr_readPerson [.ref (x + 16), .ref v] h (vL G h x v tk la b u (perL A b u q)) := by
  have h7 := B.2.1
  unfold perL
  have fin : ∀ (g : Hp) (qa a gg : Nat) (o : Int32), VE G g x v tk A la b u qa → Fs (vQ x v) h g → ¬ 7 ≤ nP A → ∀ (h2 : Hp) (r : Res), (r = .inl (some (.int (if tok b u qa = 7 then 1 else 0))) ∧ Fs (rdQ x) g h2 ∧ RdA h2 x tk b u (if tok b u qa = 7 then nx b u qa else qa)) → ∃ x35, r = .inl (some (.int x35)) ∧ (h2.1 v).1 = 8 ∧ ∃ Q37 : Res → Hp → Prop, EvM G m_Va_addPerson [.ref v, .int (nI a), .int (nI gg), .int o, .int x35] h2 Q37 ∧ ∀ (o38 : Res) (h36 : Hp), Q37 o38 h36 → (o38 = .inl none ∧ vL G h x v tk la b u (tyL A b u qa a gg o) (.inl (some (.int 1))) h36) ∨ (∃ E', o38 = .inr E' ∧ vL G h x v tk la b u (tyL A b u qa a gg o) (.inr E') h36) := by
    intro g qa a gg o E1 F1 n7 h2 r z
    obtain ⟨z1, z2, z3⟩ := z
    have E2 := E1.rd hx hv z2 z3
    refine ⟨_, z1, E2.k8, _, v_addPerson hl (by omega) E2.2.2.1 B (by omega) _ _ _ _, fun o3 h3 y => Or.inl ⟨y.1, ?_⟩⟩
    obtain ⟨-, V3, F3⟩ := y
    rw [b01_ite] at V3
    exact vL_ok (E2.va hx hv V3 F3) ((F1.tr (vQ_r z2)).tr (vQ_v F3))
  refine en_Vr_readPerson h _ _ _ (e_Vr_readPerson_0 hl h _ _ _ ⟨_, E.2.2.1.f0, fun c => ?_, fun c => ?_⟩)
  · rw [B.1] at c
    have := (nI_leI (a := 7) (by decide) (by omega)).mp c
    rw [if_pos this]; exact vL_no E Fs.rf
  · have c' : ¬ 7 ≤ nP A := fun z => c (by rw [B.1]; exact nI_le (a := 7) z (by omega))
    rw [if_neg c']
    refine ⟨_, E.r, _, E.st (o := 3) (by decide), E.k5, _, r_tk hl hx E (by decide) (by decide), fun o1 h1 z => Or.inl ⟨_, z.1, fun d => absurd ht (ite0 d), fun _ => ?_⟩⟩
    obtain ⟨-, F1, R1⟩ := z
    rw [if_pos ht] at R1
    have E1 := E.rd hx hv F1 R1
    rcases e1 : nam b u 4 0 99 (nx b u q) with ⟨qa, _ | a⟩
    · refine ⟨_, E1.r, _, E1.st (o := 4) (by decide), E1.k5, _, r_takeNamed hl hx E1.1 E1.2.1 E1.2.2.2 (lo := 0) (hi := 99) (by decide) (by decide) (by omega) (by omega) e1, fun o2 h2 z => Or.inl ⟨_, z.1, fun d => absurd rfl d, fun _ => ?_⟩⟩
      exact vL_no (E1.rd hx hv z.2.1 z.2.2.1) (vQ_r (F1.tr z.2.1))
    · refine ⟨_, E1.r, _, E1.st (o := 4) (by decide), E1.k5, _, r_takeNamed hl hx E1.1 E1.2.1 E1.2.2.2 (lo := 0) (hi := 99) (by decide) (by decide) (by omega) (by omega) e1, fun o2 h2 z => Or.inl ⟨_, z.1, fun _ => ?_, fun d => absurd d one0⟩⟩
      obtain ⟨-, F2, R2, f2⟩ := z
      have E2 := E1.rd hx hv F2 R2
      rcases e2 : nam b u 5 0 9 qa with ⟨qb, _ | g⟩
      · refine ⟨_, E2.r, _, ⟨E2.k5, f2 _ rfl⟩, _, E2.r, _, E2.st (o := 5) (by decide), E2.k5, _, r_takeNamed hl hx E2.1 E2.2.1 E2.2.2.2 (lo := 0) (hi := 9) (by decide) (by decide) (by omega) (by omega) e2, fun o3 h3 z => Or.inl ⟨_, z.1, fun d => absurd rfl d, fun _ => ?_⟩⟩
        rw [show (bnd ((qa, some a) : Nat × Option Nat) fun q1 a => bnd (nam b u 5 0 9 q1) fun q2 g => if tok b u q2 = 6 then bnd (liv A b u (nx b u q2)) fun q3 o => tyL A b u q3 a g (nI o) else tyL A b u q2 a g (-1)) = bnd (nam b u 5 0 9 qa) fun q2 g => if tok b u q2 = 6 then bnd (liv A b u (nx b u q2)) fun q3 o => tyL A b u q3 a g (nI o) else tyL A b u q2 a g (-1) from rfl, e2]
        exact vL_no (E2.rd hx hv z.2.1 z.2.2.1) (vQ_r ((F1.tr F2).tr z.2.1))
      · refine ⟨_, E2.r, _, ⟨E2.k5, f2 _ rfl⟩, _, E2.r, _, E2.st (o := 5) (by decide), E2.k5, _, r_takeNamed hl hx E2.1 E2.2.1 E2.2.2.2 (lo := 0) (hi := 9) (by decide) (by decide) (by omega) (by omega) e2, fun o3 h3 z => Or.inl ⟨_, z.1, fun _ => ?_, fun d => absurd d one0⟩⟩
        obtain ⟨-, F3, R3, f3⟩ := z
        have E3 := E2.rd hx hv F3 R3
        have F13 : Fs (rdQ x) h h3 := (F1.tr F2).tr F3
        rw [show (bnd ((qa, some a) : Nat × Option Nat) fun q1 a => bnd (nam b u 5 0 9 q1) fun q2 g => if tok b u q2 = 6 then bnd (liv A b u (nx b u q2)) fun q3 o => tyL A b u q3 a g (nI o) else tyL A b u q2 a g (-1)) = bnd (nam b u 5 0 9 qa) fun q2 g => if tok b u q2 = 6 then bnd (liv A b u (nx b u q2)) fun q3 o => tyL A b u q3 a g (nI o) else tyL A b u q2 a g (-1) from rfl, e2]
        show ∃ y22, _
        rw [show (bnd ((qb, some g) : Nat × Option Nat) fun q2 g => if tok b u q2 = 6 then bnd (liv A b u (nx b u q2)) fun q3 o => tyL A b u q3 a g (nI o) else tyL A b u q2 a g (-1)) = (if tok b u qb = 6 then bnd (liv A b u (nx b u qb)) fun q3 o => tyL A b u q3 a g (nI o) else tyL A b u qb a g (-1)) from rfl]
        refine ⟨_, E3.r, _, ⟨E3.k5, f3 _ rfl⟩, _, E3.r, _, E3.st (o := 6) (by decide), E3.k5, _, r_tk hl hx E3 (by decide) (by decide), fun o4 h4 z => Or.inl ⟨_, z.1, fun d => ?_, fun d => ?_⟩⟩
        · obtain ⟨-, F4, R4⟩ := z
          rw [if_neg (ite0 d)] at R4
          rw [if_neg (ite0 d)]
          have E4 := E3.rd hx hv F4 R4
          exact ⟨_, E4.r, _, E4.st (o := 7) (by decide), E4.k5, _, r_tk hl hx E4 (by decide) (by decide), fun o5 h5 z => Or.inl (fin h4 qb a g (-1) E4 (vQ_r (F13.tr F4)) c' h5 o5 z)⟩
        · obtain ⟨-, F4, R4⟩ := z
          rw [if_pos (ite1 d)] at R4
          rw [if_pos (ite1 d)]
          have E4 := E3.rd hx hv F4 R4
          rcases e4 : liv A b u (nx b u qb) with ⟨qc, _ | o⟩
          · refine ⟨E4.kd, _, r_living hl hx E4 B e4, fun o5 h5 z => Or.inl ⟨_, z.1, fun d => absurd rfl d, fun _ => ?_⟩⟩
            exact vL_no (E4.rd hx hv z.2.1 z.2.2.1) (vQ_r ((F13.tr F4).tr z.2.1))
          · refine ⟨E4.kd, _, r_living hl hx E4 B e4, fun o5 h5 z => Or.inl ⟨_, z.1, fun _ => ?_, fun d => absurd d one0⟩⟩
            obtain ⟨-, F5, R5, f5⟩ := z
            have E5 := E4.rd hx hv F5 R5
            exact ⟨_, E5.r, _, ⟨E5.k5, f5 _ rfl⟩, _, E5.r, _, E5.st (o := 7) (by decide), E5.k5, _, r_tk hl hx E5 (by decide) (by decide), fun o6 h6 z => Or.inl (fin h5 qc a g (nI o) E5 (vQ_r ((F13.tr F4).tr F5)) c' h6 o6 z)⟩
theorem r_heir (hl : G.1.stackTraces = false) (hx : G.n0 ≤ x) (hv : x + 27 ≤ v) (E : VE G h x v tk A la b u q) (B : Bd A) (ht : tok b u q = 6) : EvM G m_Vr_readHeir [.ref (x + 16), .ref v] h (vL G h x v tk la b u (herL A b u q)) := by
  have h7 := B.2.1
  unfold herL
  refine en_Vr_readHeir h _ _ _ (e_Vr_readHeir_0 hl h _ _ _ ⟨_, E.r, _, E.st (o := 6) (by decide), E.k5, _, r_tk hl hx E (by decide) (by decide), fun o1 h1 z => Or.inl ⟨_, z.1, fun d => absurd ht (ite0 d), fun _ => ?_⟩⟩)
  obtain ⟨-, F1, R1⟩ := z
  rw [if_pos ht] at R1
  have E1 := E.rd hx hv F1 R1
  rcases e1 : liv A b u (nx b u q) with ⟨qa, _ | p⟩
  · refine ⟨E1.kd, _, r_living hl hx E1 B e1, fun o2 h2 z => Or.inl ⟨_, z.1, fun d => absurd rfl d, fun _ => ?_⟩⟩
    exact vL_no (E1.rd hx hv z.2.1 z.2.2.1) (vQ_r (F1.tr z.2.1))
  · refine ⟨E1.kd, _, r_living hl hx E1 B e1, fun o2 h2 z => Or.inl ⟨_, z.1, fun _ => ?_, fun d => absurd d one0⟩⟩
    obtain ⟨-, F2, R2, f2⟩ := z
    have E2 := E1.rd hx hv F2 R2
    have pb := (liv_b e1).1
    have vb := vl_b (b := b) (u := u) (i := qa)
    have F12 : Fs (rdQ x) h h2 := F1.tr F2
    show ∃ y11, _
    rw [show (bnd ((qa, some p) : Nat × Option Nat) fun q1 p => if vl b u q1 = p then (q1, none) else bnd (liv A b u q1) fun q2 o => (q2, some (up A 3 p (nI o)))) = (if vl b u qa = p then (qa, none) else bnd (liv A b u qa) fun q2 o => (q2, some (up A 3 p (nI o)))) from rfl]
    refine ⟨_, E2.r, _, ⟨E2.k5, f2 _ rfl⟩, _, E2.r, E2.k5, _, r_value hl E2.2.1 E2.2.2.2, fun c => ?_, fun c => ?_⟩
    · rw [if_pos ((nI_eq (by omega) (by omega)).mp c)]; exact vL_no E2 (vQ_r F12)
    · rw [if_neg (fun z => c (by rw [z]))]
      rcases e2 : liv A b u qa with ⟨qb, _ | o⟩
      · refine ⟨E2.kd, _, r_living hl hx E2 B e2, fun o3 h3 z => Or.inl ⟨_, z.1, fun d => absurd rfl d, fun _ => ?_⟩⟩
        exact vL_no (E2.rd hx hv z.2.1 z.2.2.1) (vQ_r (F12.tr z.2.1))
      · refine ⟨E2.kd, _, r_living hl hx E2 B e2, fun o3 h3 z => Or.inl ⟨_, z.1, fun _ => ?_, fun d => absurd d one0⟩⟩
        obtain ⟨-, F3, R3, f3⟩ := z
        have E3 := E2.rd hx hv F3 R3
        refine ⟨_, E3.2.2.1.r3, _, E3.r, _, ⟨E3.k5, f3 _ rfl⟩, E3.2.2.1.w3 (by omega) (by omega), ?_⟩
        rw [nI_clamp (by omega)]
        have V4 := E3.2.2.1.set (k := 3) (j := p) (Or.inr (Or.inl ⟨by decide, by decide, by omega⟩)) (by omega) (nI o)
        have F4 : Fs (inV v) h3 (hset h3 (v + 3) p (.int (nI o))) := Fs.rf.set ⟨by omega, by omega⟩
        exact e_Vr_readHeir_65 hl _ _ (vL_ok (E3.va hx hv V4 F4) ((vQ_r (F12.tr F3)).tr (vQ_v F4)))
theorem r_place (hl : G.1.stackTraces = false) (hx : G.n0 ≤ x) (hv : x + 27 ≤ v) (E : VE G h x v tk A la b u q) (B : Bd A) {t : Nat} (ht : t < 10) : EvM G m_Vr_readPlace [.ref (x + 16), .ref v, .int (nI t)] h (vL G h x v tk la b u (plcL A b u q t)) := by
  unfold plcL
  refine en_Vr_readPlace h _ _ _ _ (e_Vr_readPlace_0 hl h _ _ _ _ ⟨_, E.r, _, E.st (o := 12) (by decide), E.k5, _, r_tk hl hx E (by decide) (by decide), fun o1 h1 z => Or.inl ⟨_, z.1, fun d => ?_, fun d => ?_⟩⟩)
  · obtain ⟨-, F1, R1⟩ := z
    rw [if_neg (ite0 d)] at R1
    rw [if_neg (ite0 d)]
    have E1 := E.rd hx hv F1 R1
    refine ⟨_, E1.r, _, E1.st (o := 13) (by decide), E1.k5, _, r_tk hl hx E1 (by decide) (by decide), fun o2 h2 z => Or.inl ⟨_, z.1, fun d => ?_, fun d => ?_⟩⟩
    · obtain ⟨-, F2, R2⟩ := z
      rw [if_neg (ite0 d)] at R2
      rw [if_neg (ite0 d)]
      exact vL_ok (E1.rd hx hv F2 R2) (vQ_r (F1.tr F2))
    · obtain ⟨-, F2, R2⟩ := z
      rw [if_pos (ite1 d)] at R2
      rw [if_pos (ite1 d)]
      have E2 := E1.rd hx hv F2 R2
      rcases e2 : liv A b u (nx b u q) with ⟨qb, _ | p⟩
      · refine ⟨E2.kd, _, r_living hl hx E2 B e2, fun o3 h3 z => Or.inl ⟨_, z.1, fun d => absurd rfl d, fun _ => ?_⟩⟩
        exact vL_no (E2.rd hx hv z.2.1 z.2.2.1) (vQ_r ((F1.tr F2).tr z.2.1))
      · refine ⟨E2.kd, _, r_living hl hx E2 B e2, fun o3 h3 z => Or.inl ⟨_, z.1, fun _ => ?_, fun d => absurd d one0⟩⟩
        obtain ⟨-, F3, R3, f3⟩ := z
        have E3 := E2.rd hx hv F3 R3
        refine ⟨_, E3.r, _, ⟨E3.k5, f3 _ rfl⟩, E3.k8, _, v_move hl (by omega) E3.2.2.1 ht 2 _, fun o4 h4 z => Or.inl ⟨z.1, ?_⟩⟩
        exact vL_ok (E3.va hx hv z.2.1 z.2.2) ((vQ_r ((F1.tr F2).tr F3)).tr (vQ_v z.2.2))
  · obtain ⟨-, F1, R1⟩ := z
    rw [if_pos (ite1 d)] at R1
    rw [if_pos (ite1 d)]
    have E1 := E.rd hx hv F1 R1
    refine ⟨_, E1.r, E1.k5, _, r_value hl E1.2.1 E1.2.2.2, E1.k8, _, v_holding hl E1.2.2.1 B _, fun c => ?_, fun c => ?_⟩
    · rw [if_neg c]; exact vL_no E1 (vQ_r F1)
    · rw [if_pos c]
      rcases e2 : liv A b u (nx b u q) with ⟨qb, _ | p⟩
      · refine ⟨E1.kd, _, r_living hl hx E1 B e2, fun o3 h3 z => Or.inl ⟨_, z.1, fun d => absurd rfl d, fun _ => ?_⟩⟩
        exact vL_no (E1.rd hx hv z.2.1 z.2.2.1) (vQ_r (F1.tr z.2.1))
      · refine ⟨E1.kd, _, r_living hl hx E1 B e2, fun o3 h3 z => Or.inl ⟨_, z.1, fun _ => ?_, fun d => absurd d one0⟩⟩
        obtain ⟨-, F3, R3, f3⟩ := z
        have E3 := E1.rd hx hv F3 R3
        refine ⟨_, E3.r, _, ⟨E3.k5, f3 _ rfl⟩, E3.k8, _, v_move hl (by omega) E3.2.2.1 ht 1 _, fun o4 h4 z => Or.inl ⟨z.1, ?_⟩⟩
        exact vL_ok (E3.va hx hv z.2.1 z.2.2) ((vQ_r (F1.tr F3)).tr (vQ_v z.2.2))
/-- a thing's worth and size -/
theorem vL_bret {R : Nat × Option Vs} {o : Res} (z : vL G h x v tk la b u R o h') {P : Res → Hp → Prop} (hp : ∀ o h', vL G h x v tk la b u R o h' → P o h') : ∃ y, o = .inl (some (.int y)) ∧ bret y (P (.inl (some (.int y))) h') := by
  have z1 := z.1
  subst z1
  refine ⟨_, rfl, bret_of ?_ (hp _ _ z)⟩
  cases R.2 with
  | none => exact Or.inl rfl
  | some a => exact Or.inr rfl
theorem r_thing (hl : G.1.stackTraces = false) (hx : G.n0 ≤ x) (hv : x + 27 ≤ v) (E : VE G h x v tk A la b u q) (F : Wf A) (ht : tok b u q = 8) : EvM G m_Vr_readThing [.ref (x + 16), .ref v] h (vL G h x v tk la b u (thgL A b u q)) := by
  have B := F.1
  have h10 := B.2.2.2
  unfold thgL
  refine en_Vr_readThing h _ _ _ (e_Vr_readThing_0 hl h _ _ _ ⟨_, E.2.2.1.f6, fun c => ?_, fun c => ?_⟩)
  · rw [B.2.2.1] at c
    have := (nI_leI (a := 10) (by decide) (by omega)).mp c
    rw [if_pos this]; exact vL_no E Fs.rf
  · have c' : ¬ 10 ≤ nT A := fun z => c (by rw [B.2.2.1]; exact nI_le (a := 10) z (by omega))
    rw [if_neg c']
    refine ⟨_, E.r, _, E.st (o := 8) (by decide), E.k5, _, r_tk hl hx E (by decide) (by decide), fun o1 h1 z => Or.inl ⟨_, z.1, fun d => absurd ht (ite0 d), fun _ => ?_⟩⟩
    obtain ⟨-, F1, R1⟩ := z
    rw [if_pos ht] at R1
    have E1 := E.rd hx hv F1 R1
    rcases e1 : nam b u 9 0 99 (nx b u q) with ⟨qa, _ | w⟩
    · refine ⟨_, E1.r, _, E1.st (o := 9) (by decide), E1.k5, _, r_takeNamed hl hx E1.1 E1.2.1 E1.2.2.2 (lo := 0) (hi := 99) (by decide) (by decide) (by omega) (by omega) e1, fun o2 h2 z => Or.inl ⟨_, z.1, fun d => absurd rfl d, fun _ => ?_⟩⟩
      exact vL_no (E1.rd hx hv z.2.1 z.2.2.1) (vQ_r (F1.tr z.2.1))
    · refine ⟨_, E1.r, _, E1.st (o := 9) (by decide), E1.k5, _, r_takeNamed hl hx E1.1 E1.2.1 E1.2.2.2 (lo := 0) (hi := 99) (by decide) (by decide) (by omega) (by omega) e1, fun o2 h2 z => Or.inl ⟨_, z.1, fun _ => ?_, fun d => absurd d one0⟩⟩
      obtain ⟨-, F2, R2, f2⟩ := z
      have E2 := E1.rd hx hv F2 R2
      show ∃ y14, _
      rw [show (bnd ((qa, some w) : Nat × Option Nat) fun q1 w => bnd (nam b u 10 1 12 q1) fun q2 s => if tok b u q2 = 11 then bnd (liv A b u (nx b u q2)) fun q3 o => plcL (addT A (nI w) (nI s) (nI o)) b u q3 (nT A) else (q2, none)) = (bnd (nam b u 10 1 12 qa) fun q2 s => if tok b u q2 = 11 then bnd (liv A b u (nx b u q2)) fun q3 o => plcL (addT A (nI w) (nI s) (nI o)) b u q3 (nT A) else (q2, none)) from rfl]
      rcases e2 : nam b u 10 1 12 qa with ⟨qb, _ | s⟩
      · refine ⟨_, E2.r, _, ⟨E2.k5, f2 _ rfl⟩, _, E2.r, _, E2.st (o := 10) (by decide), E2.k5, _, r_takeNamed hl hx E2.1 E2.2.1 E2.2.2.2 (lo := 1) (hi := 12) (by decide) (by decide) (by omega) (by omega) e2, fun o3 h3 z => Or.inl ⟨_, z.1, fun d => absurd rfl d, fun _ => ?_⟩⟩
        exact vL_no (E2.rd hx hv z.2.1 z.2.2.1) (vQ_r ((F1.tr F2).tr z.2.1))
      · refine ⟨_, E2.r, _, ⟨E2.k5, f2 _ rfl⟩, _, E2.r, _, E2.st (o := 10) (by decide), E2.k5, _, r_takeNamed hl hx E2.1 E2.2.1 E2.2.2.2 (lo := 1) (hi := 12) (by decide) (by decide) (by omega) (by omega) e2, fun o3 h3 z => Or.inl ⟨_, z.1, fun _ => ?_, fun d => absurd d one0⟩⟩
        obtain ⟨-, F3, R3, f3⟩ := z
        have E3 := E2.rd hx hv F3 R3
        have F13 : Fs (rdQ x) h h3 := (F1.tr F2).tr F3
        show ∃ y22, _
        rw [show (bnd ((qb, some s) : Nat × Option Nat) fun q2 s => if tok b u q2 = 11 then bnd (liv A b u (nx b u q2)) fun q3 o => plcL (addT A (nI w) (nI s) (nI o)) b u q3 (nT A) else (q2, none)) = (if tok b u qb = 11 then bnd (liv A b u (nx b u qb)) fun q3 o => plcL (addT A (nI w) (nI s) (nI o)) b u q3 (nT A) else (qb, none)) from rfl]
        refine ⟨_, E3.r, _, ⟨E3.k5, f3 _ rfl⟩, _, E3.r, _, E3.st (o := 11) (by decide), E3.k5, _, r_tk hl hx E3 (by decide) (by decide), fun o4 h4 z => Or.inl ⟨_, z.1, fun d => ?_, fun d => ?_⟩⟩
        · obtain ⟨-, F4, R4⟩ := z
          rw [if_neg (ite0 d)] at R4
          rw [if_neg (ite0 d)]
          exact vL_no (E3.rd hx hv F4 R4) (vQ_r (F13.tr F4))
        · obtain ⟨-, F4, R4⟩ := z
          rw [if_pos (ite1 d)] at R4
          rw [if_pos (ite1 d)]
          have E4 := E3.rd hx hv F4 R4
          rcases e4 : liv A b u (nx b u qb) with ⟨qc, _ | o⟩
          · refine ⟨E4.kd, _, r_living hl hx E4 B e4, fun o5 h5 z => Or.inl ⟨_, z.1, fun d => absurd rfl d, fun _ => ?_⟩⟩
            exact vL_no (E4.rd hx hv z.2.1 z.2.2.1) (vQ_r ((F13.tr F4).tr z.2.1))
          · refine ⟨E4.kd, _, r_living hl hx E4 B e4, fun o5 h5 z => Or.inl ⟨_, z.1, fun _ => ?_, fun d => absurd d one0⟩⟩
            obtain ⟨-, F5, R5, f5⟩ := z
            have E5 := E4.rd hx hv F5 R5
            refine ⟨_, E5.r, _, ⟨E5.k5, f5 _ rfl⟩, E5.k8, _, v_addThing hl (by omega) E5.2.2.1 B (by omega) _ _ _, fun o6 h6 z => Or.inl ⟨z.1, ?_⟩⟩
            obtain ⟨-, V6, F6⟩ := z
            have E6 := E5.va hx hv V6 F6
            have W6 : Wf (addT A (nI w) (nI s) (nI o)) := F.thing (by omega) ⟨w, (nam_b e1).2, rfl⟩ ⟨s, (nam_b e2).2, rfl⟩ (Or.inr ⟨o, (liv_b e4).1, rfl, (liv_b e4).2⟩)
            have f6 := V6.f6
            rw [show addT A (nI w) (nI s) (nI o) 0 1 = nI (nT A) + 1 by unfold addT; rw [up_same, B.2.2.1]] at f6
            refine ⟨_, f6, E6.kd, _, by rw [show nI (nT A) + 1 - 1 = nI (nT A) by grind]; exact r_place hl hx hv E6 W6.1 (by omega), fun o7 h7 z => Or.inl ?_⟩
            exact vL_bret z (fun o h' z => vL_tr ((vQ_r ((F13.tr F4).tr F5)).tr (vQ_v F6)) z)
theorem r_crown (hl : G.1.stackTraces = false) (hx : G.n0 ≤ x) (hv : x + 27 ≤ v) (E : VE G h x v tk A la b u q) (B : Bd A) (ht : tok b u q = 14) : EvM G m_Vr_readCrownThing [.ref (x + 16), .ref v] h (vL G h x v tk la b u (crnL A b u q)) := by
  have h10 := B.2.2.2
  unfold crnL
  refine en_Vr_readCrownThing h _ _ _ (e_Vr_readCrownThing_0 hl h _ _ _ ⟨_, E.2.2.1.f6, fun c => ?_, fun c => ?_⟩)
  · rw [B.2.2.1] at c
    have := (nI_leI (a := 10) (by decide) (by omega)).mp c
    rw [if_pos this]; exact vL_no E Fs.rf
  · have c' : ¬ 10 ≤ nT A := fun z => c (by rw [B.2.2.1]; exact nI_le (a := 10) z (by omega))
    rw [if_neg c']
    refine ⟨_, E.r, _, E.st (o := 14) (by decide), E.k5, _, r_tk hl hx E (by decide) (by decide), fun o1 h1 z => Or.inl ⟨_, z.1, fun d => absurd ht (ite0 d), fun _ => ?_⟩⟩
    obtain ⟨-, F1, R1⟩ := z
    rw [if_pos ht] at R1
    have E1 := E.rd hx hv F1 R1
    rcases e1 : nam b u 9 0 99 (nx b u q) with ⟨qa, _ | w⟩
    · refine ⟨_, E1.r, _, E1.st (o := 9) (by decide), E1.k5, _, r_takeNamed hl hx E1.1 E1.2.1 E1.2.2.2 (lo := 0) (hi := 99) (by decide) (by decide) (by omega) (by omega) e1, fun o2 h2 z => Or.inl ⟨_, z.1, fun d => absurd rfl d, fun _ => ?_⟩⟩
      exact vL_no (E1.rd hx hv z.2.1 z.2.2.1) (vQ_r (F1.tr z.2.1))
    · refine ⟨_, E1.r, _, E1.st (o := 9) (by decide), E1.k5, _, r_takeNamed hl hx E1.1 E1.2.1 E1.2.2.2 (lo := 0) (hi := 99) (by decide) (by decide) (by omega) (by omega) e1, fun o2 h2 z => Or.inl ⟨_, z.1, fun _ => ?_, fun d => absurd d one0⟩⟩
      obtain ⟨-, F2, R2, f2⟩ := z
      have E2 := E1.rd hx hv F2 R2
      show ∃ y14, _
      rw [show (bnd ((qa, some w) : Nat × Option Nat) fun q1 w => bnd (nam b u 10 1 12 q1) fun q2 s => ((q2, some (addT A (nI w) (nI s) (-1))) : Nat × Option Vs)) = (bnd (nam b u 10 1 12 qa) fun q2 s => (q2, some (addT A (nI w) (nI s) (-1)))) from rfl]
      rcases e2 : nam b u 10 1 12 qa with ⟨qb, _ | s⟩
      · refine ⟨_, E2.r, _, ⟨E2.k5, f2 _ rfl⟩, _, E2.r, _, E2.st (o := 10) (by decide), E2.k5, _, r_takeNamed hl hx E2.1 E2.2.1 E2.2.2.2 (lo := 1) (hi := 12) (by decide) (by decide) (by omega) (by omega) e2, fun o3 h3 z => Or.inl ⟨_, z.1, fun d => absurd rfl d, fun _ => ?_⟩⟩
        exact vL_no (E2.rd hx hv z.2.1 z.2.2.1) (vQ_r ((F1.tr F2).tr z.2.1))
      · refine ⟨_, E2.r, _, ⟨E2.k5, f2 _ rfl⟩, _, E2.r, _, E2.st (o := 10) (by decide), E2.k5, _, r_takeNamed hl hx E2.1 E2.2.1 E2.2.2.2 (lo := 1) (hi := 12) (by decide) (by decide) (by omega) (by omega) e2, fun o3 h3 z => Or.inl ⟨_, z.1, fun _ => ?_, fun d => absurd d one0⟩⟩
        obtain ⟨-, F3, R3, f3⟩ := z
        have E3 := E2.rd hx hv F3 R3
        refine ⟨_, E3.r, _, ⟨E3.k5, f3 _ rfl⟩, E3.k8, _, v_addThing hl (by omega) E3.2.2.1 B (by omega) _ _ _, fun o6 h6 z => Or.inl ⟨z.1, ?_⟩⟩
        exact vL_ok (E3.va hx hv z.2.1 z.2.2) ((vQ_r ((F1.tr F2).tr F3)).tr (vQ_v z.2.2))
/-- death, witnesses, night -/
theorem r_set1 (hx : G.n0 ≤ x) (hv : x + 27 ≤ v) {o1 : Res} {j f hi : Nat} (hj : 2 ≤ j ∧ j ≤ 4) (hf : vj 0 j = f) (E : VE G h x v tk A la b u q) {o : Nat} (ht : tok b u q = o) (z : tkP h x tk b u (nam b u o 0 hi q).1 (nam b u o 0 hi q).2 o1 h') (h9 : ∀ k, k ≠ 0 → True) :
    (¬ (nam b u o 0 hi q).2.isSome = true → vL G h x v tk la b u (setL A b u q j hi) (.inl (some (.int 0))) h') ∧ ((nam b u o 0 hi q).2.isSome = true → ∃ a, fI h' 5 (x + 12) 5 (nI a) ∧ fR h' 9 (x + 16) 0 (x + 12) ∧ fW G h' 8 v ∧ vL G h x v tk la b u (setL A b u q j hi) (.inl (some (.int 1))) (hset h' v f (.int (nI a)))) := by
  obtain ⟨-, F1, R1, f1⟩ := z
  have E1 := E.rd hx hv F1 R1
  have en : nam b u o 0 hi q = num b u 0 hi (nx b u q) := by unfold nam; rw [if_pos ht]
  unfold setL
  rw [← en]
  rcases e : nam b u o 0 hi q with ⟨qa, _ | a⟩
  · rw [e] at E1
    exact ⟨fun _ => vL_no E1 (vQ_r F1), fun z => nomatch z⟩
  · rw [e] at E1 f1
    refine ⟨fun z => absurd rfl z, fun _ => ⟨a, ⟨E1.k5, f1 _ rfl⟩, E1.r, ⟨by omega, E1.k8⟩, ?_⟩⟩
    have V2 := E1.2.2.1.set (k := 0) (j := j) (Or.inl ⟨rfl, by omega⟩) (by omega) (nI a)
    rw [hf] at V2
    have F2 : Fs (inV v) h' (hset h' v f (.int (nI a))) := Fs.rf.set ⟨by omega, by omega⟩
    exact vL_ok (E1.va hx hv V2 F2) ((vQ_r F1).tr (vQ_v F2))
end CVT
