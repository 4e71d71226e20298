/-! ===== a law's text: the class ===== -/
def LrA (h : Hp) (x : Nat) (os : List Int32) : Prop := h.2.1 (x + 17) 6 = .int (nI os.length) ∧ os.length ≤ 800 ∧ ∀ j o, os[j]? = some o → h.2.1 (x + 21) j = .int o
def LE (G : Gx) (h : Hp) (x : Nat) (tk : Nat → Nat) (b : Nat → Nat) (u q : Nat) (os : List Int32) : Prop := Old G h tk ∧ RdS h x ∧ RdA h x tk b u q ∧ LrA h x os
def lQ (x : Nat) : Nat → Nat → Prop := fun a j => rdQ x a j ∨ (a = x + 17 ∧ j = 6) ∨ a = x + 21
def lP (G : Gx) (h : Hp) (x : Nat) (tk : Nat → Nat) (b : Nat → Nat) (u : Nat) (os : List Int32) (R : Nat × Option Lc) : Res → Hp → Prop := fun o h' => o = .inl (some (.int (if R.2.isSome = true then 1 else 0))) ∧ Fs (lQ x) h h' ∧ ∃ os', LE G h' x tk b u R.1 os' ∧ ∀ a, R.2 = some a → os' = os ++ a.1
theorem snoc_get {α : Type} {l : List α} {a c : α} {j : Nat} (e : (l ++ [a])[j]? = some c) : (j < l.length ∧ l[j]? = some c) ∨ (j = l.length ∧ c = a) := by
  rw [List.getElem?_append] at e
  split at e
  · rename_i z; exact Or.inl ⟨z, e⟩
  · rename_i z
    cases y : j - l.length with
    | zero => rw [y] at e; exact Or.inr ⟨by omega, (Option.some.inj e).symm⟩
    | succ i => rw [y] at e; simp at e
section CLR
variable {G : Gx} {h h' h0 : Hp} {tk : Nat → Nat} {x : Nat} {b : Nat → Nat} {u q q1 : Nat} {os os0 : List Int32} {f : Nat → Nat × Option Lc}
theorem LrA.keep (L : LrA h x os) (e : ∀ a j, (a = x + 17 ∧ j = 6) ∨ a = x + 21 → h'.2.1 a j = h.2.1 a j) : LrA h' x os := ⟨by rw [e _ _ (Or.inl ⟨rfl, rfl⟩)]; exact L.1, L.2.1, fun j o z => by rw [e _ _ (Or.inr rfl)]; exact L.2.2 j o z⟩
theorem LE.rd (E : LE G h x tk b u q os) (hx : G.n0 ≤ x) (F : Fs (rdQ x) h h') (R : RdA h' x tk b u q1) : LE G h' x tk b u q1 os := ⟨E.1.kQ hx F, E.2.1.kQ F, R, E.2.2.2.keep (fun a j z => F.2.2 a j (by unfold rdQ; omega))⟩
theorem lQ_r (F : Fs (rdQ x) h h') : Fs (lQ x) h h' := F.mono (fun _ _ z => Or.inl z)
theorem LE.kd (E : LE G h x tk b u q os) : (h.1 (x + 17)).1 = 2 := by rw [E.2.1.2.2.2.1.1]
theorem LE.r (E : LE G h x tk b u q os) : fR h 2 (x + 17) 0 (x + 12) := ⟨E.kd, E.2.1.2.2.2.1.2.1⟩
theorem LE.k5 (E : LE G h x tk b u q os) : (h.1 (x + 12)).1 = 5 := E.2.1.kd
theorem LE.st (E : LE G h x tk b u q os) {o : Nat} (ho : o < 35) : G.st (sti o) = .ref (tk o) := (E.1.1 o ho).1
theorem LE.oc (E : LE G h x tk b u q os) {o : Nat} (ho : o < 35) : G.oc (tk o) = 1 := (E.1.1 o ho).2.1
theorem LE.op (E : LE G h x tk b u q os) {o : Nat} (ho : o < 35) : G.of 1 (tk o) = .int (opI o) := (E.1.1 o ho).2.2.1
theorem LE.inj (E : LE G h x tk b u q os) {p o : Nat} (ho : o < 35) (z : tk (tok b u p) = tk o) : tok b u p = o := E.1.2.1 _ _ tok_lt ho z
theorem LE.le (E : LE G h x tk b u q os) : q ≤ u := E.2.2.1.le
theorem lP_no (E : LE G h' x tk b u q os) (F : Fs (lQ x) h h') : lP G h x tk b u os0 (q, none) (.inl (some (.int 0))) h' := ⟨rfl, F, os, E, fun _ z => nomatch z⟩
theorem lP_ok {a : Lc} (E : LE G h' x tk b u q os) (F : Fs (lQ x) h h') (e : os = os0 ++ a.1) : lP G h x tk b u os0 (q, some a) (.inl (some (.int 1))) h' := ⟨rfl, F, os, E, fun _ z => by cases z; exact e⟩
theorem l_write (hl : G.1.stackTraces = false) (hx : G.n0 ≤ x) (E : LE G h x tk b u q os) (o : Int32) : EvM G m_Lr_write [.ref (x + 17), .int o] h (fun r h' => r = .inl none ∧ Fs (lQ x) h h' ∧ ∃ os', LE G h' x tk b u q os' ∧ (os.length < 800 → os' = os ++ [o])) := by
  obtain ⟨O, S, R, L1, L2, L3⟩ := E
  have kd : (h.1 (x + 17)).1 = 2 := by rw [S.2.2.2.1.1]
  refine en_Lr_write h _ _ _ (e_Lr_write_0 hl h _ _ _ ⟨_, ⟨kd, L1⟩, fun c => ⟨rfl, Fs.rf, os, ⟨O, S, R, L1, L2, L3⟩, fun z => absurd c (nI_ge (b := 800) z (by decide))⟩, fun c => ?_⟩)
  have lt : os.length < 800 := by
    rcases Nat.lt_or_ge os.length 800 with z | z
    · exact z
    · exact absurd (nI_le (a := 800) z (by omega)) c
  refine ⟨_, ⟨kd, S.2.2.2.1.2.2.2.2.2⟩, _, ⟨kd, L1⟩, aW_of (by omega) S.2.2.2.2.1.2.2.2 lt (by decide), ?_⟩
  rw [nI_clamp (by omega)]
  have Fw : Fs (fun a j => (a = x + 17 ∧ j = 6) ∨ a = x + 21) h (hset (hset h (x + 21) os.length (.int o)) (x + 17) 6 (.int (nI os.length + 1))) := (Fs.rf.set (Or.inr rfl)).set (Or.inl ⟨rfl, rfl⟩)
  refine e_Lr_write_20 hl _ _ _ ⟨_, ⟨kd, by rw [hs_ne (by omega)]; exact L1⟩, ⟨by omega, kd⟩, rfl, Fw.mono (fun a j z => Or.inr z), os ++ [o], ⟨O.keepF Fw (fun a j z => by omega), S.keep rfl (fun a j z => Fw.2.2 a j (by omega)), R.keep (fun a j h1 h2 => Fw.2.2 a j (by omega)), ?_, ?_, fun j c e => ?_⟩, fun _ => rfl⟩
  · rw [hs_eq, nI_1, List.length_append]; rfl
  · rw [List.length_append]; show os.length + 1 ≤ 800; omega
  · rw [hs_ne (by omega)]
    rcases snoc_get e with ⟨z, y⟩ | ⟨rfl, rfl⟩
    · rw [hs_ne (by omega)]; exact L3 j c y
    · exact hs_eq
theorem l_tk (hl : G.1.stackTraces = false) (hx : G.n0 ≤ x) (E : LE G h x tk b u q os) {o : Nat} (ho : o < 35) (h0 : o ≠ 0) : EvM G m_Re_take [.ref (x + 12), .ref (tk o)] h (fun r h' => r = .inl (some (.int (if tok b u q = o then 1 else 0))) ∧ Fs (lQ x) h h' ∧ LE G h' x tk b u (if tok b u q = o then nx b u q else q) os) := (r_take hl hx E.1 E.2.1 E.2.2.1 ho h0).post (fun _ _ z => ⟨z.1, lQ_r z.2.1, E.rd hx z.2.1 z.2.2⟩)
theorem l_step (hl : G.1.stackTraces = false) (hx : G.n0 ≤ x) (E : LE G h x tk b u q os) (hq : q < u) : EvM G m_Re_step [.ref (x + 12)] h (fun r h' => r = .inl none ∧ Fs (lQ x) h h' ∧ LE G h' x tk b u (nx b u q) os) := (r_step hl hx E.2.1 E.2.2.1 hq).post (fun _ _ z => ⟨z.1, lQ_r z.2.1, E.rd hx z.2.1 z.2.2⟩)
theorem l_isPart (hl : G.1.stackTraces = false) (E : LE G h x tk b u q os) {o : Nat} (ho : o < 35) : EvI G m_To_isPart [.ref (tk o)] h (if pn o < 7 then 1 else 0) :=
  en_To_isPart h _ _ (e_To_isPart_0 hl h _ _ ⟨_, E.op ho, fun c => ⟨by rw [if_neg (fun z => ((pn_part o ho).mpr z).1 c)], rfl⟩, fun c => ⟨_, E.op ho, fun d => ⟨by rw [if_neg (fun z => ((pn_part o ho).mpr z).2 d)], rfl⟩, fun d => ⟨by rw [if_pos ((pn_part o ho).mp ⟨c, d⟩)], rfl⟩⟩⟩)
theorem l_isTruth (hl : G.1.stackTraces = false) (E : LE G h x tk b u q os) {o : Nat} (ho : o < 35) : EvI G m_To_isTruth [.ref (tk o)] h (if 7 ≤ pn o ∧ pn o ≤ 9 then 1 else 0) :=
  en_To_isTruth h _ _ (e_To_isTruth_0 hl h _ _ ⟨_, E.op ho, fun c => ⟨by rw [if_neg (fun z => ((pn_tr o ho).mpr z).1 c)], rfl⟩, fun c => ⟨_, E.op ho, fun d => ⟨by rw [if_neg (fun z => ((pn_tr o ho).mpr z).2 d)], rfl⟩, fun d => ⟨by rw [if_pos ((pn_tr o ho).mp ⟨c, d⟩)], rfl⟩⟩⟩)
theorem l_parts (hl : G.1.stackTraces = false) (hx : G.n0 ≤ x) (hu : u ≤ 400) {R0 : Nat × Option Lc} : ∀ e i {h : Hp} {q : Nat} {os acc : List Int32} (F : Lc → Lc), LE G h x tk b u q os → os.length ≤ 2 * q → u < e + q → i ≤ q → os = os0 ++ acc → (∀ a, (F a).1 = acc ++ a.1) → Fs (lQ x) h0 h → R0 = (bnd (prt b u q) fun q1 a1 => lst (prt b u) b u 32 [] [(11, 0)] e (F a1) q1) → Ev G m_Lr_sum 2 [.ref (x + 17), .int (nI i), un] [] h 0 0 (lP G h0 x tk b u os0 R0) := by
  intro e
  induction e with
  | zero => intro i h q os acc F E hb he hi eo eF Fr eR; have := E.le; omega
  | succ e ih =>
    intro i h q os acc F E hb he hi eo eF Fr eR
    have qu := E.le
    /- a part has been passed -/
    have aft : ∀ {h1 : Hp} {os1 : List Int32} (a1 : Lc), q < u → LE G h1 x tk b u (nx b u q) os1 → prt b u q = (nx b u q, some a1) → os1 = os ++ a1.1 → a1.1.length ≤ 1 → Fs (lQ x) h0 h1 → ∃ y, fR h1 2 (x + 17) 0 y ∧ ∃ y2, G.st 31 = .ref y2 ∧ (h1.1 y).1 = 5 ∧ ∃ Q : Res → Hp → Prop, EvM G m_Re_take [.ref y, .ref y2] h1 Q ∧ ∀ (o : Res) (h2 : Hp), Q o h2 → (∃ x1, o = .inl (some (.int x1)) ∧ (¬ x1 = 0 → Ev G m_Lr_sum 2 [.ref (x + 17), .int (nI i + (1 : Int32)), un] [] h2 0 0 (lP G h0 x tk b u os0 R0)) ∧ (x1 = 0 → lP G h0 x tk b u os0 R0 (.inl (some (.int (1 : Int32)))) h2)) ∨ (∃ Ex, o = .inr Ex ∧ lP G h0 x tk b u os0 R0 (.inr Ex) h2) := by
      intro h1 os1 a1 lt E1 ep eo1 al Fr1
      have g := nx_gt (b := b) lt
      have l := nx_le (b := b) lt
      refine ⟨_, E1.r, _, E1.st (o := 32) (by decide), E1.k5, _, l_tk hl hx E1 (o := 32) (by decide) (by decide), fun o h2 z => Or.inl ⟨_, z.1, fun c => ?_, fun c => ?_⟩⟩
      · obtain ⟨-, F2, E2⟩ := z
        have t := ite1 c
        rw [if_pos t] at E2
        have lt2 := tok_in t (by decide)
        have g2 := nx_gt (b := b) lt2
        rw [nI_1]
        refine ih (i + 1) (acc := acc ++ a1.1) (fun a2 => ((F a1).1 ++ a2.1 ++ [], (F a1).2 ++ a2.2 ++ [(11, 0)])) E2 ?_ (by omega) (by omega) (by rw [eo1, eo, List.append_assoc]) (fun a => by simp only [eF, List.append_nil]) (Fr1.tr F2) ?_
        · rw [eo1, List.length_append]; omega
        · rw [eR, ep]
          show (if tok b u (nx b u q) = 32 then _ else _) = _
          rw [if_pos t]
      · obtain ⟨-, F2, E2⟩ := z
        have t := ite0 c
        rw [if_neg t] at E2
        have : R0 = (nx b u q, some (F a1)) := by
          rw [eR, ep]
          show (if tok b u (nx b u q) = 32 then _ else _) = _
          rw [if_neg t]
        rw [this]
        exact lP_ok E2 (Fr1.tr F2) (by rw [eo1, eo, eF, List.append_assoc])
    refine e_Lr_sum_2 hl h _ _ _ ⟨fun c => ?_, fun c => ⟨_, E.r, E.k5, _, r_token hl E.2.1 E.2.2.1, fun o1 h1 z => Or.inl ⟨_, z.1, ?_⟩⟩⟩
    · have ci := (nI_leI (a := 400) (by decide) (by omega)).mp c
      have t0 : tok b u q = 0 := tok_u (by omega)
      have : R0 = (q, none) := by
        have ep : prt b u q = (q, none) := by
          unfold prt
          rw [if_neg (by rw [t0]; decide), if_neg (fun z => absurd (t0.symm.trans z.1) (by decide))]
        rw [eR, ep]
        rfl
      rw [this]; exact lP_no E Fr
    · rw [z.2]
      refine ⟨E.oc tok_lt, _, l_isPart hl E tok_lt, fun c => ⟨_, E.r, E.k5, _, r_takeNumber hl hx E.1 E.2.1 E.2.2.1 (lo := 0) (hi := 999) (by omega) (by omega) (isN b u 0 999 q) Iff.rfl, fun o2 h2 y => Or.inl ⟨_, y.1, fun d => ?_, fun d => ?_⟩⟩, fun c => ?_⟩
      · obtain ⟨-, F2, R2, -⟩ := y
        have d' := ite0 d
        rw [if_neg d'] at R2
        have : R0 = (q, none) := by
          rw [eR]
          unfold prt
          rw [if_neg (ite0 c), if_neg d']
          rfl
        rw [this]; exact lP_no (E.rd hx F2 R2) (Fr.tr (lQ_r F2))
      · obtain ⟨-, F2, R2, v5⟩ := y
        have d' := ite1 d
        rw [if_pos d'] at R2
        have lt := tok_in d'.1 (by decide)
        have E2 := E.rd hx F2 R2
        refine ⟨_, E2.r, _, ⟨E2.k5, v5 d'⟩, E2.kd, _, l_write hl hx E2 _, fun o3 h3 w => Or.inl ⟨w.1, ?_⟩⟩
        obtain ⟨-, F3, os3, E3, e3⟩ := w
        have e3 := e3 (by omega)
        exact aft ([nI (vl b u q)], [(10, vl b u q)]) lt E3 (by unfold prt; rw [if_neg (ite0 c), if_pos d']) e3 (by simp) ((Fr.tr (lQ_r F2)).tr F3)
      · have c' := ite1 c
        have lt := pn_in (Nat.lt_of_lt_of_le c' (by decide))
        refine ⟨_, E.op tok_lt, E.kd, _, l_write hl hx E _, fun o3 h3 w => Or.inl ⟨w.1, ?_⟩⟩
        obtain ⟨-, F3, os3, E3, e3⟩ := w
        have e3 := e3 (by omega)
        refine ⟨_, E3.r, E3.k5, _, l_step hl hx E3 lt, fun o4 h4 w => Or.inl ⟨w.1, ?_⟩⟩
        obtain ⟨-, F4, E4⟩ := w
        exact aft ([opI (tok b u q)], [(pn (tok b u q), 0)]) lt E4 (by unfold prt; rw [if_pos c']) e3 (by simp) ((Fr.tr F3).tr F4)
theorem lr_sum (hl : G.1.stackTraces = false) (hx : G.n0 ≤ x) (hu : u ≤ 400) (E : LE G h x tk b u q os) (hb : os.length ≤ 2 * q) : EvM G m_Lr_sum [.ref (x + 17)] h (lP G h x tk b u os (sumL b u q)) :=
  en_Lr_sum h _ _ (e_Lr_sum_0 hl h _ _ (l_parts hl hx hu (u + 1) 0 (acc := []) (fun a => a) E hb (by omega) (Nat.zero_le _) (List.append_nil _).symm (fun _ => rfl) Fs.rf rfl))
/-! all of, any of -/
theorem l_all12 (hl : G.1.stackTraces = false) (hx : G.n0 ≤ x) (hu : u ≤ 400) {k : Nat} {dep : Int32} (hf : PO u f) (ha : ∀ {h : Hp} {q : Nat} {os : List Int32}, LE G h x tk b u q os → os.length ≤ 2 * q → EvM G (m_Lr_atom (k + 2)) [.ref (x + 17), .int dep] h (lP G h x tk b u os (f q))) {R0 : Nat × Option Lc} : ∀ e i {h : Hp} {q : Nat} {os : List Int32} (a : Lc), LE G h x tk b u q os → os.length ≤ 2 * q → u < e + q → i ≤ q → os = os0 ++ a.1 → Fs (lQ x) h0 h → R0 = lst f b u 22 [-6] [(15, 0)] e a q → Ev G (m_Lr_allOf (k + 3)) 12 [.ref (x + 17), .int dep, .int (nI i)] [] h 0 0 (lP G h0 x tk b u os0 R0) := by
  intro e
  induction e with
  | zero => intro i h q os a E hb he hi eo Fr eR; have := E.le; omega
  | succ e ih =>
    intro i h q os a E hb he hi eo Fr eR
    have qu := E.le
    have eR' : R0 = if tok b u q = 22 then bnd (f (nx b u q)) fun q1 a1 => lst f b u 22 [-6] [(15, 0)] e (a.1 ++ a1.1 ++ [-6], a.2 ++ a1.2 ++ [(15, 0)]) q1 else (q, some a) := eR
    refine e_Lr_allOf_12 hl h _ _ _ _ ⟨fun c => ?_, fun c => ⟨_, E.r, _, E.st (o := 22) (by decide), E.k5, _, l_tk hl hx E (o := 22) (by decide) (by decide), fun o1 h1 z => Or.inl ⟨_, z.1, fun c => ?_, fun c => ?_⟩⟩⟩
    · have ci := (nI_leI (a := 400) (by decide) (by omega)).mp c
      rw [if_neg (by rw [tok_u (by omega)]; decide)] at eR'
      rw [eR']; exact lP_ok E Fr eo
    · obtain ⟨-, F1, E1⟩ := z
      rw [if_neg (ite0 c)] at E1 eR'
      rw [eR']; exact lP_ok E1 (Fr.tr F1) eo
    · obtain ⟨-, F1, E1⟩ := z
      have t := ite1 c
      rw [if_pos t] at E1 eR'
      have lt := tok_in t (by decide)
      have g := nx_gt (b := b) lt
      have l := nx_le (b := b) lt
      refine ⟨E1.kd, _, ha E1 (by omega), fun o2 h2 z => Or.inl ?_⟩
      obtain ⟨z1, F2, os2, E2, z4⟩ := z
      rcases ef : f (nx b u q) with ⟨qa, _ | a1⟩
      · rw [ef] at z1 E2 eR'
        refine ⟨_, z1, fun c => absurd rfl c, fun _ => ?_⟩
        rw [eR']; exact lP_no E2 ((Fr.tr F1).tr F2)
      · rw [ef] at z1 E2 z4 eR'
        have e2 := z4 _ rfl
        obtain ⟨p1, p2, p3, p4⟩ := hf _ _ _ l ef
        have ln2 : os2.length = os.length + a1.1.length := by rw [e2, List.length_append]
        refine ⟨_, z1, fun _ => ⟨E2.kd, _, l_write hl hx E2 _, fun o3 h3 w => Or.inl ⟨w.1, ?_⟩⟩, fun c => absurd c one0⟩
        obtain ⟨-, F3, os3, E3, e3⟩ := w
        have e3 := e3 (by omega)
        have ln3 : os3.length = os2.length + 1 := by rw [e3, List.length_append]; rfl
        rw [nI_1]
        exact ih (i + 1) (a.1 ++ a1.1 ++ [-6], a.2 ++ a1.2 ++ [(15, 0)]) E3 (by simp only; omega) (by simp only; omega) (by simp only; omega) (by rw [e3, e2, eo]; simp only [List.append_assoc]) (((Fr.tr F1).tr F2).tr F3) eR'
theorem l_all (hl : G.1.stackTraces = false) (hx : G.n0 ≤ x) (hu : u ≤ 400) {k : Nat} {dep : Int32} (hf : PO u f) (ha : ∀ {h : Hp} {q : Nat} {os : List Int32}, LE G h x tk b u q os → os.length ≤ 2 * q → EvM G (m_Lr_atom (k + 2)) [.ref (x + 17), .int dep] h (lP G h x tk b u os (f q))) (E : LE G h x tk b u q os) (hb : os.length ≤ 2 * q) : EvM G (m_Lr_allOf (k + 3)) [.ref (x + 17), .int dep] h (lP G h x tk b u os (andL f b u q)) := by
  have qu := E.le
  refine en_Lr_allOf h _ _ _ (e_Lr_allOf_0 hl h _ _ _ ⟨E.kd, _, ha E hb, fun o1 h1 z => Or.inl ?_⟩)
  obtain ⟨z1, F1, os1, E1, z4⟩ := z
  unfold andL lead
  rcases ef : f q with ⟨qa, _ | a1⟩
  · rw [ef] at z1 E1
    exact ⟨_, z1, fun c => absurd rfl c, fun _ => lP_no E1 F1⟩
  · rw [ef] at z1 E1 z4
    have e1 := z4 _ rfl
    obtain ⟨p1, p2, p3, p4⟩ := hf _ _ _ qu ef
    have ln1 : os1.length = os.length + a1.1.length := by rw [e1, List.length_append]
    exact ⟨_, z1, fun _ => l_all12 hl hx hu hf ha (u + 1) 0 a1 E1 (by simp only; omega) (by omega) (Nat.zero_le _) e1 F1 rfl, fun c => absurd c one0⟩
theorem l_any12 (hl : G.1.stackTraces = false) (hx : G.n0 ≤ x) (hu : u ≤ 400) {k : Nat} {dep : Int32} (hf : PO u f) (ha : ∀ {h : Hp} {q : Nat} {os : List Int32}, LE G h x tk b u q os → os.length ≤ 2 * q → EvM G (m_Lr_allOf (k + 2)) [.ref (x + 17), .int dep] h (lP G h x tk b u os (f q))) {R0 : Nat × Option Lc} : ∀ e i {h : Hp} {q : Nat} {os : List Int32} (a : Lc), LE G h x tk b u q os → os.length ≤ 2 * q → u < e + q → i ≤ q → os = os0 ++ a.1 → Fs (lQ x) h0 h → R0 = lst f b u 21 [-5] [(16, 0)] e a q → Ev G (m_Lr_anyOf (k + 3)) 12 [.ref (x + 17), .int dep, .int (nI i)] [] h 0 0 (lP G h0 x tk b u os0 R0) := by
  intro e
  induction e with
  | zero => intro i h q os a E hb he hi eo Fr eR; have := E.le; omega
  | succ e ih =>
    intro i h q os a E hb he hi eo Fr eR
    have qu := E.le
    have eR' : R0 = if tok b u q = 21 then bnd (f (nx b u q)) fun q1 a1 => lst f b u 21 [-5] [(16, 0)] e (a.1 ++ a1.1 ++ [-5], a.2 ++ a1.2 ++ [(16, 0)]) q1 else (q, some a) := eR
    refine e_Lr_anyOf_12 hl h _ _ _ _ ⟨fun c => ?_, fun c => ⟨_, E.r, _, E.st (o := 21) (by decide), E.k5, _, l_tk hl hx E (o := 21) (by decide) (by decide), fun o1 h1 z => Or.inl ⟨_, z.1, fun c => ?_, fun c => ?_⟩⟩⟩
    · have ci := (nI_leI (a := 400) (by decide) (by omega)).mp c
      rw [if_neg (by rw [tok_u (by omega)]; decide)] at eR'
      rw [eR']; exact lP_ok E Fr eo
    · obtain ⟨-, F1, E1⟩ := z
      rw [if_neg (ite0 c)] at E1 eR'
      rw [eR']; exact lP_ok E1 (Fr.tr F1) eo
    · obtain ⟨-, F1, E1⟩ := z
      have t := ite1 c
      rw [if_pos t] at E1 eR'
      have lt := tok_in t (by decide)
      have g := nx_gt (b := b) lt
      have l := nx_le (b := b) lt
      refine ⟨E1.kd, _, ha E1 (by omega), fun o2 h2 z => Or.inl ?_⟩
      obtain ⟨z1, F2, os2, E2, z4⟩ := z
      rcases ef : f (nx b u q) with ⟨qa, _ | a1⟩
      · rw [ef] at z1 E2 eR'
        refine ⟨_, z1, fun c => absurd rfl c, fun _ => ?_⟩
        rw [eR']; exact lP_no E2 ((Fr.tr F1).tr F2)
      · rw [ef] at z1 E2 z4 eR'
        have e2 := z4 _ rfl
        obtain ⟨p1, p2, p3, p4⟩ := hf _ _ _ l ef
        have ln2 : os2.length = os.length + a1.1.length := by rw [e2, List.length_append]
        refine ⟨_, z1, fun _ => ⟨E2.kd, _, l_write hl hx E2 _, fun o3 h3 w => Or.inl ⟨w.1, ?_⟩⟩, fun c => absurd c one0⟩
        obtain ⟨-, F3, os3, E3, e3⟩ := w
        have e3 := e3 (by omega)
        have ln3 : os3.length = os2.length + 1 := by rw [e3, List.length_append]; rfl
        rw [nI_1]
        exact ih (i + 1) (a.1 ++ a1.1 ++ [-5], a.2 ++ a1.2 ++ [(16, 0)]) E3 (by simp only; omega) (by simp only; omega) (by simp only; omega) (by rw [e3, e2, eo]; simp only [List.append_assoc]) (((Fr.tr F1).tr F2).tr F3) eR'
theorem l_any (hl : G.1.stackTraces = false) (hx : G.n0 ≤ x) (hu : u ≤ 400) {k : Nat} {dep : Int32} (hf : PO u f) (ha : ∀ {h : Hp} {q : Nat} {os : List Int32}, LE G h x tk b u q os → os.length ≤ 2 * q → EvM G (m_Lr_atom (k + 2)) [.ref (x + 17), .int dep] h (lP G h x tk b u os (f q))) (E : LE G h x tk b u q os) (hb : os.length ≤ 2 * q) : EvM G (m_Lr_anyOf (k + 4)) [.ref (x + 17), .int dep] h (lP G h x tk b u os (orL f b u q)) := by
  have qu := E.le
  have hg : ∀ {h : Hp} {q : Nat} {os : List Int32}, LE G h x tk b u q os → os.length ≤ 2 * q → EvM G (m_Lr_allOf (k + 1 + 2)) [.ref (x + 17), .int dep] h (lP G h x tk b u os (andL f b u q)) := fun E hb => l_all hl hx hu hf ha E hb
  refine en_Lr_anyOf (d := k + 1) h _ _ _ (e_Lr_anyOf_0 (d := k + 1) hl h _ _ _ ⟨E.kd, _, hg E hb, fun o1 h1 z => Or.inl ?_⟩)
  obtain ⟨z1, F1, os1, E1, z4⟩ := z
  unfold orL lead
  rcases ef : andL f b u q with ⟨qa, _ | a1⟩
  · rw [ef] at z1 E1
    exact ⟨_, z1, fun c => absurd rfl c, fun _ => lP_no E1 F1⟩
  · rw [ef] at z1 E1 z4
    have e1 := z4 _ rfl
    obtain ⟨p1, p2, p3, p4⟩ := andL_po hf _ _ _ qu ef
    have ln1 : os1.length = os.length + a1.1.length := by rw [e1, List.length_append]
    exact ⟨_, z1, fun _ => l_any12 hl hx hu (andL_po hf) hg (u + 1) 0 a1 E1 (by simp only; omega) (by omega) (Nat.zero_le _) e1 F1 rfl, fun c => absurd c one0⟩
end CLR
