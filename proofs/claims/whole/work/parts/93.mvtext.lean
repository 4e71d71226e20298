/-! ===== a valley's text: the reference ===== -/
def mF (m : Nat) : Nat → Nat → Prop := fun a j => mS m a j ∨ mW m a j
def mnP (w : Option Nat) : Int32 := match w with
  | none => -1
  | some a => nI a
def PsA (h : Hp) (m : Nat) (b : Nat → Nat) (u q1 : Nat) (w : Option Nat) : Prop := match w with
  | none => BgA h m q1
  | some _ => RsA h m b u q1
def ME (G : Gx) (h : Hp) (m : Nat) (tk : Nat → Nat) (A : Vs) (b : Nat → Nat) (u : Nat) : Prop := Old G h tk ∧ LitG G h ∧ TpM h m b 0 u ∧ WldAt h m A
def mtP (h : Hp) (m : Nat) (b : Nat → Nat) (u q1 : Nat) (w : Option Nat) : Res → Hp → Prop := fun r h' => r = .inl (some (.int (mnP w))) ∧ Fs (mS m) h h' ∧ PsA h' m b u q1 w
def mL (G : Gx) (h : Hp) (m : Nat) (tk : Nat → Nat) (b : Nat → Nat) (u : Nat) (R : Nat × Option Vs) : Res → Hp → Prop := fun o h' => o = .inl (some (.int (if R.2.isSome = true then 1 else 0))) ∧ Fs (mF m) h h' ∧ ∃ A', ME G h' m tk A' b u ∧ (R.2 = none → BgA h' m R.1) ∧ ∀ A1, R.2 = some A1 → A1 = A' ∧ RsA h' m b u R.1
theorem not_m1 : ¬ (0 : Int32) ≤ -1 := by decide
theorem lt_m1 : (-1 : Int32) < 0 := by decide
theorem addP_upd {A : Vs} {a g o o' w w' : Int32} : up (up (addP A a g o' w') 3 (nP A) o) 4 (nP A) w = addP A a g o w := by
  funext k j
  unfold addP up
  by_cases c4 : k = 4 ∧ j = nP A
  · obtain ⟨rfl, rfl⟩ := c4; simp
  · by_cases c3 : k = 3 ∧ j = nP A
    · obtain ⟨rfl, rfl⟩ := c3; simp
    · rw [if_neg c4, if_neg c3]
      by_cases c0 : k = 0 ∧ j = 0
      · rw [if_pos c0, if_pos c0]
      · rw [if_neg c0, if_neg c0]
        by_cases c5 : k = 5 ∧ j = nP A
        · rw [if_pos c5, if_pos c5]
        · rw [if_neg c5, if_neg c5, if_neg c4, if_neg c3, if_neg c4, if_neg c3]
theorem isN_M {b : Nat → Nat} {u lo hi q : Nat} (h : hi < 1000) : isN b u lo hi q ↔ isM b u lo (nI hi) q := by
  have vb := vl_b (b := b) (u := u) (i := q)
  refine ⟨fun z => ⟨z.1, by omega, z.2.1, nI_le z.2.2 (by omega)⟩, fun z => ⟨z.1, z.2.2.1, ?_⟩⟩
  exact (nI_leI (by omega) (by omega)).mp z.2.2.2
theorem le_pred {v n : Nat} (hv : v < 1000) (hn : n ≤ 7) : nI v ≤ nI n - 1 ↔ v < n := by
  cases n with
  | zero =>
    refine ⟨fun z => ?_, fun z => by omega⟩
    have e : nI 0 - 1 = (-1 : Int32) := by decide
    rw [e] at z
    have h0 : ¬ nI v < 0 := nI_pos (by omega)
    exact absurd (Int32.lt_of_le_of_lt z lt_m1) h0
  | succ n =>
    rw [← nI_1, show nI n + 1 - 1 = nI n by grind]
    exact ⟨fun z => by have := (nI_leI (by omega) (by omega)).mp z; omega, fun z => nI_le (by omega) (by omega)⟩
section MVT
variable {G : Gx} {h h' : Hp} {tk : Nat → Nat} {m : Nat} {A A' : Vs} {b : Nat → Nat} {n u q q1 : Nat}
theorem ME.kS (E : ME G h m tk A b u) (hm : G.n0 ≤ m) (F : Fs (mS m) h h') : ME G h' m tk A b u := ⟨E.1.keep (mS_old hm F), E.2.1.keep (mS_old hm F), E.2.2.1.kS F, E.2.2.2.kS F⟩
theorem ME.kW (E : ME G h m tk A b u) (hm : G.n0 ≤ m) (W : WldAt h' m A') (F : Fs (mW m) h h') : ME G h' m tk A' b u := by
  have od : ∀ a, a < G.n0 → h'.1 a = h.1 a ∧ h'.2.1 a = h.2.1 a := fun a ha => ⟨by rw [F.1], funext fun j => F.2.2 a j (by unfold mW; omega)⟩
  exact ⟨E.1.keep od, E.2.1.keep od, E.2.2.1.keep F (fun a j z => by unfold mW; omega), W⟩
theorem RsA.kW (R : RsA h m b u q) (F : Fs (mW m) h h') : RsA h' m b u q := by
  obtain ⟨p, p1, p2, p3⟩ := R
  exact ⟨p, p1, p2, by rw [F.2.2 _ _ (by unfold mW; omega)]; exact p3⟩
theorem mF_s (F : Fs (mS m) h h') : Fs (mF m) h h' := F.mono (fun _ _ z => Or.inl z)
theorem mF_w (F : Fs (mW m) h h') : Fs (mF m) h h' := F.mono (fun _ _ z => Or.inr z)
theorem mL_no (E : ME G h' m tk A b u) (F : Fs (mF m) h h') (B : BgA h' m q) : mL G h m tk b u (q, none) (.inl (some (.int 0))) h' := ⟨rfl, F, A, E, fun _ => B, fun _ z => nomatch z⟩
theorem mL_ok (E : ME G h' m tk A b u) (F : Fs (mF m) h h') (R : RsA h' m b u q) : mL G h m tk b u (q, some A) (.inl (some (.int 1))) h' := ⟨rfl, F, A, E, fun z => (nomatch z), fun _ z => ⟨(Option.some.inj z).symm, R⟩⟩
theorem mL_tr {R : Nat × Option Vs} {o : Res} {h1 : Hp} (F : Fs (mF m) h h1) (z : mL G h1 m tk b u R o h') : mL G h m tk b u R o h' := ⟨z.1, F.tr z.2.1, z.2.2⟩
theorem mL_bret {R : Nat × Option Vs} {o : Res} (z : mL G h m tk b u R o h') {P : Res → Hp → Prop} (hp : ∀ o h', mL G h m tk b u R o h' → P o h') : ∃ y, o = .inl (some (.int y)) ∧ bret y (P (.inl (some (.int y))) h') := by
  have z1 := z.1
  subst z1
  refine ⟨_, rfl, bret_of ?_ (hp _ _ z)⟩
  cases R.2 with
  | none => exact Or.inl rfl
  | some a => exact Or.inr rfl
/-- the same, where it is told 0 or 1 -/
theorem mL_01 {R : Nat × Option Vs} {o : Res} (z : mL G h m tk b u R o h') {P : Res → Hp → Prop} (hp : ∀ o h', mL G h m tk b u R o h' → P o h') : ∃ y, o = .inl (some (.int y)) ∧ (y = 0 → P (.inl (some (.int 0))) h') ∧ (¬ y = 0 → P (.inl (some (.int 1))) h') := by
  have z1 := z.1
  subst z1
  refine ⟨_, rfl, fun c => ?_, fun c => ?_⟩
  · have := hp _ _ z; rw [c] at this; exact this
  · have := hp _ _ z; rw [if_pos (ite1 c)] at this; exact this
theorem ME.W (E : ME G h m tk A b u) : WldAt h m A := E.2.2.2
theorem ME.kd (E : ME G h m tk A b u) : (h.1 m).1 = 11 := E.2.2.2.kd
theorem ME.lit (E : ME G h m tk A b u) {i : Nat} (hi : i < 26) : StrAt G h (G.lit i) (wt (lio i)) := E.2.1 i hi
theorem o_num (hl : G.1.stackTraces = false) (hm : G.n0 ≤ m) (T : TpM h m b n u) (R : RsA h m b u q) {lo hi : Nat} (h1 : lo ≤ 1000) (h2 : hi < 1000) {w : Option Nat} (e : num b u lo hi q = (q1, w)) : EvM G m_Mo_number [.ref m, .int (nI lo), .int (nI hi)] h (mtP h m b u q1 w) := by
  refine (o_number hl hm T R h1 (nI hi) (isN b u lo hi q) (isN_M h2)).post (fun o h' z => ?_)
  obtain ⟨z1, z2, z3, z4⟩ := z
  rcases num_c e with ⟨c, rfl, rfl⟩ | ⟨c, rfl, rfl⟩
  · rw [if_pos c] at z1; exact ⟨z1, z4, z2 c⟩
  · rw [if_neg c] at z1; exact ⟨z1, z4, z3⟩
theorem o_behind (hl : G.1.stackTraces = false) (hm : G.n0 ≤ m) (E : ME G h m tk A b u) (R : RsA h m b u q) {i o lo hi : Nat} (hi26 : i < 26) (hio : lio i = o) (ho : o < 29) (h3 : 3 ≤ o) (h1 : lo ≤ 1000) (h2 : hi < 1000) {w : Option Nat} (e : nam b u o lo hi q = (q1, w)) : EvM G m_Mo_behind [.ref m, .ref (G.lit i), .int (nI lo), .int (nI hi)] h (mtP h m b u q1 w) := by
  refine en_Mo_behind h _ _ _ _ _ (e_Mo_behind_0 hl h _ _ _ _ _ ⟨E.kd, _, o_letters hl hm E.2.2.1 R, fun o1 h1 z => Or.inl ?_⟩)
  obtain ⟨z1, L, F1⟩ := z
  have E1 := E.kS hm F1
  have S := E1.lit hi26
  rw [hio] at S
  refine ⟨z1, E1.kd, _, o_isWord hl E1.1 E1.2.2.1 L S ho h3, fun c => ?_, fun c => ?_⟩
  · unfold nam at e
    rw [if_neg (ite0 c)] at e
    obtain ⟨rfl, rfl⟩ := Prod.mk.inj e
    exact ⟨rfl, F1, L.2.2.2⟩
  · unfold nam at e
    rw [if_pos (ite1 c)] at e
    refine ⟨E1.kd, _, o_num hl hm E1.2.2.1 (L.rs ho h3 (ite1 c)) (by assumption) h2 e, fun o2 h2 y => Or.inl ⟨_, y.1, ?_⟩⟩
    exact ⟨rfl, F1.tr y.2.1, y.2.2⟩
theorem o_livingB (hl : G.1.stackTraces = false) (hm : G.n0 ≤ m) (E : ME G h m tk A b u) (B : Bd A) (R : RsA h m b u q) {w : Option Nat} (e : liv A b u q = (q1, w)) : EvM G m_Mo_livingNumber [.ref m] h (fun r h' => mtP h m b u q1 w r h' ∧ BgA h' m q) := by
  have h7 := B.2.1
  have vb := vl_b (b := b) (u := u) (i := q)
  have hc : (tok b u q = 1 ∧ vl b u q < nP A) ↔ isM b u 0 (A 0 0 - 1) q := by
    rw [B.1]
    exact ⟨fun z => ⟨z.1, by omega, Nat.zero_le _, (le_pred (by omega) h7).mpr z.2⟩, fun z => ⟨z.1, (le_pred z.2.1 h7).mp z.2.2.2⟩⟩
  refine en_Mo_livingNumber h _ _ (e_Mo_livingNumber_0 hl h _ _ ⟨E.kd, _, o_people hl E.W, E.kd, _, o_number hl hm E.2.2.1 R (lo := 0) (by omega) (A 0 0 - 1) (tok b u q = 1 ∧ vl b u q < nP A) hc, fun o1 h1 z => Or.inl ⟨_, z.1, ?_⟩⟩)
  obtain ⟨-, z2, z3, F1⟩ := z
  have E1 := E.kS hm F1
  by_cases c : tok b u q = 1 ∧ vl b u q < nP A
  · rw [if_pos c]
    refine ⟨fun d => absurd d (nI_pos (by omega)), fun _ => ⟨E1.kd, _, o_lives hl E1.W (by omega), fun d => ?_, fun d => ?_⟩⟩
    · rcases liv_c e with ⟨y, -, -⟩ | ⟨-, rfl, rfl⟩
      · exact absurd y.2.2 (ite0 d)
      · exact ⟨⟨rfl, F1, z3⟩, z3⟩
    · rcases liv_c e with ⟨y, rfl, rfl⟩ | ⟨y, -, -⟩
      · exact ⟨⟨rfl, F1, z2 c⟩, z3⟩
      · exact absurd ⟨c.1, c.2, ite1 d⟩ y
  · rw [if_neg c]
    refine ⟨fun _ => ?_, fun d => absurd lt_m1 d⟩
    rcases liv_c e with ⟨y, -, -⟩ | ⟨-, rfl, rfl⟩
    · exact absurd ⟨y.1, y.2.1⟩ c
    · exact ⟨⟨rfl, F1, z3⟩, z3⟩
theorem o_livingNumber (hl : G.1.stackTraces = false) (hm : G.n0 ≤ m) (E : ME G h m tk A b u) (B : Bd A) (R : RsA h m b u q) {w : Option Nat} (e : liv A b u q = (q1, w)) : EvM G m_Mo_livingNumber [.ref m] h (mtP h m b u q1 w) := (o_livingB hl hm E B R e).post (fun _ _ z => z.1)
theorem o_isThing (hl : G.1.stackTraces = false) (hm : G.n0 ≤ m) (W : WldAt h m A) (B : Bd A) (ht : nT A < 10) (w s o : Int32) : EvM G m_Mo_isThing [.ref m, .int w, .int s, .int o] h (mpost m h (addT A w s o)) := by
  have W1 := W.set (k := 6 + 0) (j := nT A) (dT (by omega) ht) (adT (by omega)) w
  have W2 := W1.set (k := 6 + 1) (j := nT A) (dT (by omega) ht) (adT (by omega)) s
  have W3 := W2.set (k := 6 + 2) (j := nT A) (dT (by omega) ht) (adT (by omega)) o
  have c : ∀ f, f < 5 → (nI (44 + 5 * nT A + f)).toNatClampNeg = 44 + 5 * nT A + f := fun f hf => nI_clamp (by omega)
  refine en_Mo_isThing h _ m _ _ _ (e_Mo_isThing_0 hl h _ m _ _ _ ⟨W.kd, nI (nT A), by rw [← B.2.2.1]; exact o_things hl W, _, W.r1, _, o_tAt hl (nT A) 0, W.wr hm (by omega), ?_⟩)
  rw [c 0 (by omega)]
  refine e_Mo_isThing_18 hl _ _ m _ _ _ ⟨_, W1.r1, _, o_tAt hl (nT A) 1, W1.wr hm (by omega), ?_⟩
  rw [c 1 (by omega)]
  refine e_Mo_isThing_30 hl _ _ m _ _ ⟨_, W2.r1, _, o_tAt hl (nT A) 2, W2.wr hm (by omega), ?_⟩
  rw [c 2 (by omega)]
  refine e_Mo_isThing_42 hl _ _ m _ ⟨W3.kd, _, o_lies hl hm W3 ht 0 (-1) (fun _ => rfl), fun o1 h1 z => Or.inl ?_⟩
  obtain ⟨z1, W4, F4⟩ := z
  have r1 := W4.at (k := 0) (j := 1) (n := 1) (d0 (by decide)) rfl
  have e1 : mvA (up (up (up A (6 + 0) (nT A) w) (6 + 1) (nT A) s) (6 + 2) (nT A) o) (nT A) 0 (-1) 0 1 = A 0 1 := by unfold mvA; rw [up_ne (by omega), up_ne (by omega), up_ne (by omega), up_ne (by omega), up_ne (by omega)]
  rw [e1] at r1
  refine ⟨z1, _, W4.r1, _, r1, W4.wr hm (n := 1) (by omega), rfl, W4.set (k := 0) (j := 1) (n := 1) (d0 (by decide)) rfl (A 0 1 + 1), ?_⟩
  exact (((((Fs.rf.set (mW_at (by omega) (by omega))).set (mW_at (by omega) (by omega))).set (mW_at (by omega) (by omega))).tr F4)).set (mW_at (by decide) (by decide))
theorem o_readNumber (hl : G.1.stackTraces = false) (hm : G.n0 ≤ m) (E : ME G h m tk A b u) (R : RsA h m b u q) {j at_ hi : Nat} (hj : 2 ≤ j ∧ j ≤ 4) (ha : ad 0 j = at_) (hat : at_ < 9 ∧ at_ ≠ 3) (h2 : hi < 1000) : EvM G m_Mo_readNumber [.ref m, .int (nI at_), .int 0, .int (nI hi)] h (mL G h m tk b u (bnd (num b u 0 hi q) fun q1 a => (q1, some (up A 0 j (nI a))))) := by
  rcases e : num b u 0 hi q with ⟨qa, _ | a⟩
  · refine en_Mo_readNumber h _ _ _ _ _ (e_Mo_readNumber_0 hl h _ _ _ _ _ ⟨E.kd, _, o_num hl hm E.2.2.1 R (lo := 0) (by omega) h2 e, fun o1 h1 z => Or.inl ⟨_, z.1, ?_⟩⟩)
    obtain ⟨-, F1, B1⟩ := z
    have E1 := E.kS hm F1
    refine ⟨_, E1.W.r1, fun c => absurd c not_m1, fun _ => ⟨_, E1.W.r1, _, E1.W.at (k := 0) (j := j) (n := at_) (d0 (by omega)) ha, E1.W.wr hm (by omega), ?_⟩⟩
    rw [nI_clamp (by omega)]
    have W2 := E1.W.set (k := 0) (j := j) (n := at_) (d0 (by omega)) ha (A 0 j)
    rw [up_self] at W2
    have F2 : Fs (mW m) h1 (hset h1 (m + 1) at_ (.int (A 0 j))) := Fs.rf.set (mW_at (by omega) hat.2)
    refine e_Mo_readNumber_30 hl _ _ _ ⟨fun _ => mL_no (E1.kW hm W2 F2) ((mF_s F1).tr (mF_w F2)) ?_, fun c => absurd lt_m1 c⟩
    unfold BgA; rw [hs_ne (by omega)]; exact B1
  · refine en_Mo_readNumber h _ _ _ _ _ (e_Mo_readNumber_0 hl h _ _ _ _ _ ⟨E.kd, _, o_num hl hm E.2.2.1 R (lo := 0) (by omega) h2 e, fun o1 h1 z => Or.inl ⟨_, z.1, ?_⟩⟩)
    obtain ⟨-, F1, B1⟩ := z
    have E1 := E.kS hm F1
    have ab := (num_b e).2
    refine ⟨_, E1.W.r1, fun _ => ⟨E1.W.wr hm (by omega), ?_⟩, fun c => absurd (nI_le (a := 0) (Nat.zero_le _) (by omega)) c⟩
    rw [nI_clamp (by omega)]
    have W2 := E1.W.set (k := 0) (j := j) (n := at_) (d0 (by omega)) ha (nI a)
    have F2 : Fs (mW m) h1 (hset h1 (m + 1) at_ (.int (nI a))) := Fs.rf.set (mW_at (by omega) hat.2)
    exact e_Mo_readNumber_30 hl _ _ _ ⟨fun c => absurd c (nI_pos (by omega)), fun _ => mL_ok (E1.kW hm W2 F2) ((mF_s F1).tr (mF_w F2)) (RsA.kW B1 F2)⟩
end MVT
