/-! ===== valley(): the reference ===== -/
def mRd (G : Gx) (h : Hp) (m : Nat) (tk : Nat → Nat) (b : Nat → Nat) (u : Nat) (R : Nat × Option Vs) : Res → Hp → Prop := fun o h' => ∃ y, o = .inl (some (.int y)) ∧ (0 ≤ y ↔ R.2.isSome = true) ∧ Fs (mF m) h h' ∧ ∃ A', ME G h' m tk A' b u ∧ (R.2 = none → BgA h' m R.1) ∧ ∀ A1, R.2 = some A1 → A1 = A'
def mv1 (m : Nat) : Nat → Nat → Prop := fun a j => (a = m ∧ (j = 0 ∨ (9 ≤ j ∧ j ≤ 12) ∨ j = 16)) ∨ mW m a j
def mRA (h : Hp) (m : Nat) (A : Vs) (b : Nat → Nat) (n : Nat) : Res → Hp → Prop := fun o h' => ∃ y, o = .inl (some (.int y)) ∧ (0 ≤ y ↔ (valV A b n).2.isSome = true) ∧ Fs (mv1 m) h h' ∧ h'.2.1 m 0 = .int 0 ∧ TpM h' m b 0 n ∧ ((valV A b n).2 = none → BgA h' m (valV A b n).1) ∧ ∃ A', WldAt h' m A' ∧ ∀ A1, (valV A b n).2 = some A1 → A1 = A'
def mY (m : Nat) : Nat → Nat → Prop := fun a j => (a = m ∧ (j = 0 ∨ (9 ≤ j ∧ j ≤ 14) ∨ j = 16)) ∨ a = m + 3 ∨ mW m a j
def vI (v : Value) : Int32 := match v with
  | .int x => x
  | _ => 0
/-! the number of texts is as it was -/
theorem lineV_06 {A A' : Vs} {b : Nat → Nat} {u q q' : Nat} (e : lineV A b u q = (q', some A')) : A' 0 6 = A 0 6 := by
  have hset : ∀ {j hi : Nat}, 2 ≤ j ∧ j ≤ 5 → setL A b u q j hi = (q', some A') → A' 0 6 = A 0 6 := fun hj e => by
    unfold setL at e
    obtain ⟨q1, w, e1, e⟩ := bnd_s e
    rw [← Option.some.inj (Prod.mk.inj e).2, up_ne (by omega)]
  have hty : ∀ {q a g : Nat} {o : Int32}, tyL A b u q a g o = (q', some A') → A' 0 6 = A 0 6 := fun e => by
    rw [← Option.some.inj (Prod.mk.inj e).2]
    unfold addP
    rw [up_ne (by omega), up_ne (by omega), up_ne (by omega), up_ne (by omega), up_ne (by omega), up_ne (by omega)]
  have hmv : ∀ {B : Vs} {t : Nat} {w p : Int32}, mvA B t w p 0 6 = B 0 6 := by
    intro B t w p
    unfold mvA
    rw [up_ne (by omega), up_ne (by omega)]
  have hT : ∀ {w s o : Int32}, addT A w s o 0 6 = A 0 6 := addT_lo (by omega) (by omega)
  unfold lineV at e
  split at e
  · unfold perL at e
    split at e
    · cases (Prod.mk.inj e).2
    · obtain ⟨q1, a, e1, e⟩ := bnd_s e
      obtain ⟨q2, g, e2, e⟩ := bnd_s e
      split at e
      · obtain ⟨q3, o, e3, e⟩ := bnd_s e
        exact hty e
      · exact hty e
  · split at e
    · unfold herL at e
      obtain ⟨q1, p, e1, e⟩ := bnd_s e
      split at e
      · cases (Prod.mk.inj e).2
      · obtain ⟨q2, o, e2, e⟩ := bnd_s e
        rw [← Option.some.inj (Prod.mk.inj e).2, up_ne (by omega)]
    · split at e
      · unfold thgL at e
        split at e
        · cases (Prod.mk.inj e).2
        · obtain ⟨q1, w, e1, e⟩ := bnd_s e
          obtain ⟨q2, s, e2, e⟩ := bnd_s e
          split at e
          · obtain ⟨q3, o, e3, e⟩ := bnd_s e
            unfold plcL at e
            split at e
            · split at e
              · obtain ⟨q4, p, e4, e⟩ := bnd_s e
                rw [← Option.some.inj (Prod.mk.inj e).2, hmv, hT]
              · cases (Prod.mk.inj e).2
            · split at e
              · obtain ⟨q4, p, e4, e⟩ := bnd_s e
                rw [← Option.some.inj (Prod.mk.inj e).2, hmv, hT]
              · rw [← Option.some.inj (Prod.mk.inj e).2, hT]
          · cases (Prod.mk.inj e).2
      · split at e
        · unfold crnL at e
          split at e
          · cases (Prod.mk.inj e).2
          · obtain ⟨q1, w, e1, e⟩ := bnd_s e
            obtain ⟨q2, s, e2, e⟩ := bnd_s e
            rw [← Option.some.inj (Prod.mk.inj e).2, hT]
        · split at e
          · exact hset (by omega) e
          · split at e
            · exact hset (by omega) e
            · split at e
              · exact hset (by omega) e
              · cases (Prod.mk.inj e).2
theorem lnsV_06 {b : Nat → Nat} {u q' : Nat} {A' : Vs} : ∀ d {A q}, lnsV b u d A q = (q', some A') → A' 0 6 = A 0 6
  | 0, A, q, e => by cases (Prod.mk.inj e).2
  | d + 1, A, q, e => by
    unfold lnsV at e
    obtain ⟨q1, A1, e1, e⟩ := bnd_s e
    split at e
    · rw [← Option.some.inj (Prod.mk.inj e).2]; exact lineV_06 e1
    · split at e
      · rw [lnsV_06 d e]; exact lineV_06 e1
      · cases (Prod.mk.inj e).2
theorem valV_06 {A A' : Vs} {b : Nat → Nat} {u : Nat} (e : (valV A b u).2 = some A') : A' 0 6 = A 0 6 := by
  unfold valV at e
  split at e
  · rw [← Option.some.inj e]
  · rcases z : lnsV b u 14 A (sk b u 0) with ⟨q', w⟩
    rw [z] at e
    have e' : w = some A' := e
    rw [e'] at z
    exact lnsV_06 14 z
section MVA
variable {G : Gx} {h h' h0 : Hp} {tk : Nat → Nat} {m : Nat} {A A' : Vs} {b : Nat → Nat} {n u q q1 : Nat} {T : Tt} {ln : Int32} {im : Option Sv} {pa : Nat → Vs} {r : Nat} {fl : Int32}
theorem mRd_no (E : ME G h' m tk A b u) (F : Fs (mF m) h h') (B : BgA h' m q) : mRd G h m tk b u (q, none) (.inl (some (.int (-1)))) h' := ⟨_, rfl, ⟨fun z => absurd z not_m1, fun z => nomatch z⟩, F, A, E, fun _ => B, fun _ z => nomatch z⟩
theorem mRd_ok (E : ME G h' m tk A b u) (F : Fs (mF m) h h') {y : Int32} (hy : 0 ≤ y) : mRd G h m tk b u (q, some A) (.inl (some (.int y))) h' := ⟨_, rfl, ⟨fun _ => rfl, fun _ => hy⟩, F, A, E, fun z => (nomatch z), fun _ z => (Option.some.inj z).symm⟩
theorem o_rline (hl : G.1.stackTraces = false) (hm : G.n0 ≤ m) (E : ME G h m tk A b u) (W : Wf A) (R : RsA h m b u q) {k : Nat} (hk : k < 14) : EvM G m_Mo_readLine [.ref m, .int 1, .int (nI k)] h (mL G h m tk b u (lineV A b u q)) := by
  refine en_Mo_readLine h _ _ _ _ (e_Mo_readLine_0 hl h _ _ _ _ ⟨E.kd, _, o_letters hl hm E.2.2.1 R, fun o1 h1 z => Or.inl ⟨z.1, fun c => absurd c one0, fun _ => ⟨fun c => absurd c (nI_ge (b := 14) hk (by decide)), fun _ => ⟨fun c => absurd c one0, fun _ => ?_⟩⟩⟩⟩)
  obtain ⟨-, L, F1⟩ := z
  have E1 := E.kS hm F1
  exact ⟨E1.kd, _, o_vline hl hm E1 W L, fun o2 h2 z => Or.inl (mL_01 z (fun _ _ z => mL_tr (mF_s F1) z))⟩
theorem o_rline14 (hl : G.1.stackTraces = false) (hm : G.n0 ≤ m) (E : ME G h m tk A b u) (R : RsA h m b u q) : EvM G m_Mo_readLine [.ref m, .int 1, .int (nI 14)] h (mL G h m tk b u (q, none)) := by
  refine en_Mo_readLine h _ _ _ _ (e_Mo_readLine_0 hl h _ _ _ _ ⟨E.kd, _, o_letters hl hm E.2.2.1 R, fun o1 h1 z => Or.inl ⟨z.1, fun c => absurd c one0, fun _ => ⟨fun _ => ?_, fun c => absurd (Int32.le_refl _) c⟩⟩⟩)
  obtain ⟨-, L, F1⟩ := z
  exact mL_no (E.kS hm F1) (mF_s F1) L.2.2.2
theorem o_vlines (hl : G.1.stackTraces = false) (hm : G.n0 ≤ m) {P : Res → Hp → Prop} : ∀ d k {h : Hp} {A : Vs} {q : Nat}, k + d = 14 → ME G h m tk A b u → Wf A → RsA h m b u q → Fs (mF m) h0 h → (∀ o h', mRd G h0 m tk b u (lnsV b u d A q) o h' → P o h') → Ev G m_Mo_readAll 28 [.ref m, .int 1, .int (nI k)] [] h 0 0 P := by
  intro d
  induction d with
  | zero =>
    intro k h A q hk E W R Fr hP
    have k14 : k = 14 := by omega
    subst k14
    refine e_Mo_readAll_28 hl h _ _ _ _ ⟨E.kd, _, o_rline14 hl hm E R, fun o1 h1 z => Or.inl ⟨_, z.1, fun c => absurd rfl c, fun _ => hP _ _ ?_⟩⟩
    obtain ⟨-, F1, A1, E1, z4, -⟩ := z
    exact mRd_no E1 (Fr.tr F1) (z4 rfl)
  | succ d ih =>
    intro k h A q hk E W R Fr hP
    have eL : lnsV b u (d + 1) A q = bnd (lineV A b u q) fun q1 A1 => if tok b u q1 = 0 then (q1, some A1) else if tok b u q1 = 29 then lnsV b u d A1 (nx b u q1) else (q1, none) := rfl
    rw [eL] at hP
    refine e_Mo_readAll_28 hl h _ _ _ _ ⟨E.kd, _, o_rline hl hm E W R (by omega), fun o1 h1 z => Or.inl ?_⟩
    obtain ⟨z1, F1, A1, E1, z4, z5⟩ := z
    rcases e : lineV A b u q with ⟨qa, _ | B1⟩
    · rw [e] at z1 z4 hP
      exact ⟨_, z1, fun c => absurd rfl c, fun _ => hP _ _ (mRd_no E1 (Fr.tr F1) (z4 rfl))⟩
    · rw [e] at z1 z5 hP
      replace hP : ∀ o h', mRd G h0 m tk b u (if tok b u qa = 0 then (qa, some B1) else if tok b u qa = 29 then lnsV b u d B1 (nx b u qa) else (qa, none)) o h' → P o h' := hP
      obtain ⟨ea, R1⟩ := z5 _ rfl
      subst ea
      have W1 := lineV_wf W e
      obtain ⟨p, hp, sp, f10⟩ := R1
      have sp' : sk b u p = qa := sp
      refine ⟨_, z1, fun _ => ⟨E1.kd, _, o_blanks hl hm E1.2.2.1 hp f10, fun o2 h2 y => Or.inl ⟨y.1, ?_⟩⟩, fun c => absurd c one0⟩
      obtain ⟨-, y2, y3, F2⟩ := y
      rw [sp'] at y2 y3
      have E2 := E1.kS hm F2
      have Fr2 := (Fr.tr F1).tr (mF_s F2)
      have qu : qa ≤ u := by rw [← sp']; exact rn_le hp
      have u4 := E2.2.2.1.u400
      refine ⟨_, ⟨E2.kd, y2⟩, _, E2.2.2.1.f11, fun c => ?_, fun c => ?_⟩
      · have c' : ¬ tok b u qa = 0 := fun z => c (by rw [show qa = u by have := tok_0.mp z; omega])
        rw [if_neg c'] at hP
        refine ⟨E2.kd, _, o_isAt hl E2.2.2.1 (lo := 59) (hi := 59) qu y2 (by omega) (by omega), fun s => ?_, fun s => ?_⟩
        · have s' := ite1 s
          have t : tok b u qa = 29 := (tok_sign (c := 59) (by decide) (by decide) rfl (by decide) (by decide)).mpr ⟨s'.1, by omega⟩
          rw [if_pos t] at hP
          refine ⟨_, ⟨E2.kd, y2⟩, ⟨hm, E2.kd⟩, e_Mo_readAll_81 hl _ _ _ _ _ ?_⟩
          rw [nI_1, nI_1]
          have F3 : Fs (mS m) h2 (hset h2 m 10 (.int (nI (qa + 1)))) := Fs.rf.set ⟨rfl, Or.inl rfl⟩
          exact ih (k + 1) (by omega) (E2.kS hm F3) W1 ⟨qa + 1, by omega, (nx_sign (by decide) (by decide) t).symm, hs_eq⟩ (Fr2.tr (mF_s F3)) hP
        · have s' : ¬ tok b u qa = 29 := fun z => ite0 s (by have := (tok_sign (c := 59) (by decide) (by decide) rfl (by decide) (by decide)).mp z; omega)
          rw [if_neg s'] at hP
          exact hP _ _ (mRd_no E2 Fr2 y3)
      · have t : tok b u qa = 0 := tok_0.mpr (by have := (nI_eq (by omega) (by omega)).mp c; omega)
        rw [if_pos t] at hP
        exact hP _ _ (mRd_ok E2 Fr2 (by rw [nI_1]; exact nI_le (a := 0) (Nat.zero_le _) (by omega)))
theorem o_readV (hl : G.1.stackTraces = false) (hm : G.n0 ≤ m) (O : Old G h tk) (Lg : LitG G h) (Tp : TpM h m b n u) (W : WldAt h m A) (F : Wf A) : EvM G m_Mo_readAll [.ref m, .int 1] h (mRA h m A b n) := by
  have n4 : n ≤ 400 := Tp.2.2.2.2.2.1.1
  refine en_Mo_readAll h _ _ _ (e_Mo_readAll_0 hl h _ _ _ ⟨W.kd, _, o_uses hl hm Tp, fun o1 h1 z => Or.inl ⟨z.1, ?_⟩⟩)
  obtain ⟨-, T1, F1, f10⟩ := z
  have Fa : Fs (fun a j => a = m ∧ (j = 0 ∨ (9 ≤ j ∧ j ≤ 12) ∨ j = 16)) h (hset h1 m 16 (.int 0)) := ((Fs.rf.set ⟨rfl, by omega⟩).tr (F1.mono (fun a j z => by unfold mT at z; omega))).set ⟨rfl, by omega⟩
  have T2 : TpM (hset h1 m 16 (.int 0)) m b 0 n := T1.keep (P := fun a j => a = m ∧ j = 16) (Fs.rf.set ⟨rfl, rfl⟩) (fun a j z q => by omega)
  have f2 : (hset h1 m 16 (.int 0)).2.1 m 10 = .int (nI 0) := by rw [hs_ne (by omega)]; exact f10
  have f0 : (hset h1 m 16 (.int 0)).2.1 m 0 = .int 0 := by rw [hs_ne (by omega), F1.2.2 m 0 (by unfold mT; omega)]; exact hs_eq
  refine ⟨⟨hm, T1.kd⟩, ?_⟩
  generalize hset h1 m 16 (.int 0) = g at *
  have od : ∀ a, a < G.n0 → g.1 a = h.1 a ∧ g.2.1 a = h.2.1 a := fun a ha => ⟨by rw [Fa.1], funext fun j => Fa.2.2 a j (by omega)⟩
  have E2 : ME G g m tk A b n := ⟨O.keep od, Lg.keep od, T2, W.keepF Fa (fun j hj z => by omega) (fun j _ z => by omega)⟩
  refine e_Mo_readAll_9 hl _ _ _ _ ⟨E2.kd, _, o_blanks hl hm T2 (p := 0) (Nat.zero_le _) f2, fun o3 h3 y => Or.inl ⟨y.1, ?_⟩⟩
  obtain ⟨-, y2, y3, F3⟩ := y
  have E3 := E2.kS hm F3
  have F03 : Fs (mv1 m) h h3 := (Fa.mono (fun a j z => Or.inl z)).tr (F3.mono (fun a j z => by unfold mS at z; exact Or.inl ⟨z.1, by omega⟩))
  have e3 : h3.2.1 m 0 = .int 0 := by rw [F3.2.2 m 0 (by unfold mS; omega)]; exact f0
  have sq : sk b n 0 ≤ n := rn_le (Nat.zero_le _)
  refine ⟨_, ⟨E3.kd, y2⟩, _, E3.2.2.1.f11, fun c => ?_, fun c => ?_⟩
  · have c' : ¬ tok b n (sk b n 0) = 0 := fun z => c (by rw [show sk b n 0 = n by have := tok_0.mp z; omega])
    have ev : valV A b n = lnsV b n 14 A (sk b n 0) := by unfold valV; rw [if_neg c']
    refine o_vlines hl hm (h0 := h3) 14 0 rfl E3 F ⟨sk b n 0, sq, sk_sk, y2⟩ Fs.rf (fun o h' z => ?_)
    obtain ⟨y, z1, z2, z3, A', E', z4, z5⟩ := z
    rw [← ev] at z2 z4 z5
    exact ⟨y, z1, z2, F03.tr (z3.mono (fun a j z => by
      rcases z with z | z
      · unfold mS at z; exact Or.inl ⟨z.1, by omega⟩
      · exact Or.inr z)), by rw [z3.2.2 m 0 (by unfold mF mS mW; omega)]; exact e3, E'.2.2.1, z4, A', E'.W, z5⟩
  · have t : tok b n (sk b n 0) = 0 := tok_0.mpr (by have := (nI_eq (by omega) (by omega)).mp c; omega)
    have ev : valV A b n = (sk b n 0, some A) := by unfold valV; rw [if_pos t]
    unfold mRA
    rw [ev]
    exact ⟨_, rfl, ⟨fun _ => rfl, fun _ => by decide⟩, F03, e3, E3.2.2.1, fun z => (nomatch z), A, E3.W, fun _ z => (Option.some.inj z).symm⟩
/-- only the world, the scanner and the earlier world have changed -/
theorem MV.via (M : MV G h m A T ln im pa r) (W : WldAt h' m A') (F : Fs (mY m) h h') : MV G h' m A' T ln im pa r := by
  obtain ⟨W0, L, I, ⟨r1, r2⟩, c5, sn⟩ := M
  have k : ∀ a j, ¬ mY m a j → h'.2.1 a j = h.2.1 a j := F.2.2
  have k3 : h'.2.1 (m + 1) 3 = h.2.1 (m + 1) 3 := k _ _ (by unfold mY mW; omega)
  refine ⟨W, L.congr (fun j hj => k _ _ (by unfold mY mW; omega)), I.keep (k _ _ (by unfold mY mW; omega)) (fun j _ => k _ _ (by unfold mY mW; omega)), ⟨r1, by rw [k _ _ (by unfold mY mW; omega)]; exact r2⟩, fun j hj => by rw [k _ _ (by unfold mY mW; omega)]; exact c5 j hj, fun i hi => ?_⟩
  rw [k3]
  exact (sn i hi).keep (fun j _ => k _ _ (by unfold mY mW; omega))
/-- the world has been brought back -/
theorem MV.rest (M : MV G h m A T ln im pa r) (S : ModSh h' m) (F : Fs (fun a j => mY m a j ∨ a = m + 1) h h') (e : ∀ j, j < 1243 → h'.2.1 (m + 1) j = h.2.1 (m + 1) j) (e2 : ∀ j, j < 2092 → ∃ x, h'.2.1 (m + 1) j = .int x) : MV G h' m A T ln im pa r := by
  obtain ⟨W0, L, I, ⟨r1, r2⟩, c5, sn⟩ := M
  obtain ⟨w, Wa, Wr⟩ := W0.wat
  have k : ∀ a j, ¬ (mY m a j ∨ a = m + 1) → h'.2.1 a j = h.2.1 a j := F.2.2
  have W' : WldAt h' m A := by
    refine ⟨S, fun j => vI (h'.2.1 (m + 1) j), fun j hj => ?_, fun kk j hd => ?_⟩
    · obtain ⟨x, hx⟩ := e2 j hj
      show h'.2.1 (m + 1) j = Value.int (vI (h'.2.1 (m + 1) j))
      rw [hx]; rfl
    · have lt := ad_lt hd
      show _ = vI (h'.2.1 (m + 1) (ad kk j))
      rw [e _ (by omega), Wa.2 _ (by omega)]
      exact Wr kk j hd
  refine ⟨W', L.congr (fun j hj => e j (by omega)), I.keep (k _ _ (by unfold mY mW; omega)) (fun j _ => k _ _ (by unfold mY mW; omega)), ⟨r1, by rw [k _ _ (by unfold mY mW; omega)]; exact r2⟩, fun j hj => by rw [k _ _ (by unfold mY mW; omega)]; exact c5 j hj, fun i hi => ?_⟩
  rw [e 3 (by omega)]
  exact (sn i hi).keep (fun j _ => k _ _ (by unfold mY mW; omega))
def mVal (G : Gx) (h : Hp) (m : Nat) (A : Vs) (T : Tt) (ln : Int32) (im : Option Sv) (pa : Nat → Vs) (r : Nat) (b : Nat → Nat) (n : Nat) : Res → Hp → Prop := fun o h' => o = .inl (some (.int (valQ A b n).2)) ∧ h'.2.1 m 0 = .int (valQ A b n).1 ∧ Fs (mZ m) h h' ∧ match valS A b n with
  | none => MT G h' m A T ln im pa r b 0 (vR (valV A b n))
  | some A' => MT G h' m A' T ln im pa 0 b 0 (vR (valV A b n))
theorem mY_Z (F : Fs (fun a j => mY m a j ∨ a = m + 1) h h') : Fs (mZ m) h h' := F.mono (fun a j z => by unfold mY mW at z; unfold mZ; omega)
theorem p_valley (hl : G.1.stackTraces = false) (hm : G.n0 ≤ m) (O : Old G h tk) (Lg : LitG G h) (X : MT G h m A T ln im pa r b n fl) (F : Wf A) : EvM G m_Mo_valley [.ref m] h (mVal G h m A T ln im pa r b n) := by
  obtain ⟨M, ⟨u, Tp⟩, q14⟩ := X
  have W := M.W
  obtain ⟨w, Wa, Wr⟩ := W.wat
  have L6 := F.2.2.2.2.2.2
  have r3 : h.2.1 m 3 = .ref (m + 3) := W.1.1.2.2.2.1
  have s3 : h.1 (m + 3) = (101, 1243) := W.1.2.2.2.1
  have s1 : h.1 (m + 1) = (101, 2092) := W.1.2.1
  refine en_Mo_valley h _ m (e_Mo_valley_0 hl h _ m ?_)
  have k : ∀ t a j, a ≠ m + 3 → (cpO h (m + 3) 0 (m + 1) 0 t).2.1 a j = h.2.1 a j := fun t a j n1 => by rw [cpO_ne n1]
  have kd : ∀ t, ((cpO h (m + 3) 0 (m + 1) 0 t).1 m).1 = 11 := fun t => W.kd
  have step : Ev G m_Mo_valley 2 [.ref m, .int (nI 0), un] [] (cpO h (m + 3) 0 (m + 1) 0 0) 0 0 (mVal G h m A T ln im pa r b n) := by
    refine for_up (Q := fun t => Ev G m_Mo_valley 2 [.ref m, .int (nI t), un] [] (cpO h (m + 3) 0 (m + 1) 0 t) 0 0 _) (n := 1243) ?_ (fun t ht ih => ?_) 0 (Nat.zero_le _)
    · have Fg : Fs (fun a _ => a = m + 3) h (cpO h (m + 3) 0 (m + 1) 0 1243) := cpO_Fs (fun j _ _ => rfl)
      have row : ∀ j, j < 1243 → (cpO h (m + 3) 0 (m + 1) 0 1243).2.1 (m + 3) j = .int (w j) := fun j hj => by
        have := cpO_in (h := h) (a := m + 3) (da := 0) (b := m + 1) (sb := 0) (t := 1243) hj
        rw [Nat.zero_add] at this
        rw [this]; exact Wa.2 j (by omega)
      refine e_Mo_valley_2 hl _ _ m _ ⟨fun _ => ⟨kd 1243, ?_⟩, fun c => absurd (by decide) c⟩
      generalize cpO h (m + 3) 0 (m + 1) 0 1243 = g at *
      have od : ∀ a, a < G.n0 → g.1 a = h.1 a ∧ g.2.1 a = h.2.1 a := fun a ha => ⟨by rw [Fg.1], funext fun j => Fg.2.2 a j (by omega)⟩
      have Wg := W.keepF Fg (fun j _ z => by omega) (fun j _ z => by omega)
      refine ⟨_, o_readV hl hm (O.keep od) (Lg.keep od) (Tp.keep Fg (fun a j z q => by omega)) Wg F, fun o1 h1 z => Or.inl ?_⟩
      obtain ⟨y, z1, z2, F1, e0, T1, zB, A', W1, eA⟩ := z
      have u4 := T1.u400
      /- the heap with the fault told -/
      have main : ∀ (fl' : Int32), fl' = vR (valV A b n) → Ev G m_Mo_valley 49 [.ref m, .int y, un] [] (hset h1 m 14 (.int fl')) 0 0 (mVal G h m A T ln im pa r b n) := by
        intro fl' ef
        have W2 : WldAt (hset h1 m 14 (.int fl')) m A' := W1.keepF (P := fun a j => a = m ∧ j = 14) (Fs.rf.set ⟨rfl, rfl⟩) (fun j _ z => by omega) (fun j _ z => by omega)
        have T2 : TpM (hset h1 m 14 (.int fl')) m b 0 n := T1.keep (P := fun a j => a = m ∧ j = 14) (Fs.rf.set ⟨rfl, rfl⟩) (fun a j z q => by omega)
        have F2 : Fs (mY m) h (hset h1 m 14 (.int fl')) := ((Fg.mono (fun a j z => Or.inr (Or.inl z))).tr (F1.mono (fun a j z => by
          rcases z with z | z
          · exact Or.inl ⟨z.1, by omega⟩
          · exact Or.inr (Or.inr z)))).set (Or.inl ⟨rfl, by omega⟩)
        have e02 : (hset h1 m 14 (.int fl')).2.1 m 0 = .int 0 := by rw [hs_ne (by omega)]; exact e0
        have f14 : (hset h1 m 14 (.int fl')).2.1 m 14 = .int fl' := hs_eq
        have row2 : ∀ j, j < 1243 → (hset h1 m 14 (.int fl')).2.1 (m + 3) j = .int (w j) := fun j hj => by
          rw [hs_ne (by omega), F1.2.2 _ _ (by unfold mv1 mW; omega)]; exact row j hj
        generalize hset h1 m 14 (.int fl') = g2 at *
        /- all is brought back -/
        have rst : ∀ (c : Int32), valQ A b n = (c, 0) → valS A b n = none → Ev G m_Mo_valley 92 [.ref m, un, .int (nI 0)] [] (hset g2 m 0 (.int c)) 0 0 (mVal G h m A T ln im pa r b n) := by
          intro c eQ eS
          have W3 := W2.thr c
          have F3 : Fs (mY m) h (hset g2 m 0 (.int c)) := F2.set (Or.inl ⟨rfl, Or.inl rfl⟩)
          have T3 : TpM (hset g2 m 0 (.int c)) m b 0 n := T2.keep (P := fun a j => a = m ∧ j = 0) (Fs.rf.set ⟨rfl, rfl⟩) (fun a j z q => by omega)
          have row3 : ∀ j, j < 1243 → (hset g2 m 0 (.int c)).2.1 (m + 3) j = .int (w j) := fun j hj => by rw [hs_ne (by omega)]; exact row2 j hj
          have f14' : (hset g2 m 0 (.int c)).2.1 m 14 = .int fl' := by rw [hs_ne (by omega)]; exact f14
          have f00 : (hset g2 m 0 (.int c)).2.1 m 0 = .int c := hs_eq
          generalize hset g2 m 0 (.int c) = g3 at *
          obtain ⟨w3, Wa3, -⟩ := W3.wat
          have k1 : ∀ t a j, a ≠ m + 1 → (cpO g3 (m + 1) 0 (m + 3) 0 t).2.1 a j = g3.2.1 a j := fun t a j n1 => by rw [cpO_ne n1]
          have st2 : Ev G m_Mo_valley 92 [.ref m, un, .int (nI 0)] [] (cpO g3 (m + 1) 0 (m + 3) 0 0) 0 0 (mVal G h m A T ln im pa r b n) := by
            refine for_up (Q := fun t => Ev G m_Mo_valley 92 [.ref m, un, .int (nI t)] [] (cpO g3 (m + 1) 0 (m + 3) 0 t) 0 0 _) (n := 1243) ?_ (fun t ht ih => ?_) 0 (Nat.zero_le _)
            · refine e_Mo_valley_92 hl _ _ m _ ⟨fun _ => ?_, fun c => absurd (by decide) c⟩
              have in1 : ∀ j, j < 1243 → (cpO g3 (m + 1) 0 (m + 3) 0 1243).2.1 (m + 1) j = .int (w j) := fun j hj => by
                have := cpO_in (h := g3) (a := m + 1) (da := 0) (b := m + 3) (sb := 0) (t := 1243) hj
                rw [Nat.zero_add] at this
                rw [this]; exact row3 j hj
              have F4 : Fs (fun a j => mY m a j ∨ a = m + 1) h (cpO g3 (m + 1) 0 (m + 3) 0 1243) := (F3.mono (fun a j z => Or.inl z)).tr (cpO_Fs (fun j _ _ => Or.inr rfl))
              have M4 : MV G (cpO g3 (m + 1) 0 (m + 3) 0 1243) m A T ln im pa r := by
                refine M.rest (W3.1.keep (fun a _ _ => rfl) (fun j hj => k1 _ _ _ (by omega))) F4 (fun j hj => by rw [in1 j hj]; exact (Wa.2 j (by omega)).symm) (fun j hj => ?_)
                by_cases z : j < 1243
                · exact ⟨_, in1 j z⟩
                · rw [cpO_out (by omega)]; exact ⟨_, Wa3.2 j hj⟩
              unfold mVal
              rw [eQ, eS]
              refine ⟨rfl, by rw [k1 _ _ _ (by omega)]; exact f00, mY_Z F4, M4, ⟨n, T3.keep (P := fun a _ => a = m + 1) (cpO_Fs (fun j _ _ => rfl)) (fun a j z q => by omega)⟩, by rw [k1 _ _ _ (by omega), ← ef]; exact f14'⟩
            · refine e_Mo_valley_92 hl _ _ m _ ⟨fun c => absurd c (nI_ge ht (by decide)), fun _ => ⟨m + 1, ⟨W3.kd, by rw [k1 _ _ _ (by omega)]; exact W3.r1.2⟩, m + 3, ⟨W3.kd, by rw [k1 _ _ _ (by omega)]; exact W3.1.1.2.2.2.1⟩, w t, aI_of (n := 1243) W3.1.2.2.2.1 (by omega) (by decide) (by rw [k1 _ _ _ (by omega)]; exact row3 t (by omega)), aW_of (n := 2092) (by omega) W3.1.2.1 (by omega) (by decide), ?_⟩⟩
              rw [nI_clamp (by omega)]
              refine e_Mo_valley_111 hl _ _ m _ ?_
              rw [nI_1]
              have es := cpO_s (h := g3) (a := m + 1) (da := 0) (b := m + 3) (sb := 0) (t := t)
              rw [show g3.2.1 (m + 3) (0 + t) = .int (w t) by rw [Nat.zero_add]; exact row3 t (by omega), Nat.zero_add] at es
              rw [es]; exact ih
          rw [cpO_0] at st2
          exact st2
        refine e_Mo_valley_49 hl _ _ m _ ⟨fun c => ?_, fun c => ?_⟩
        · have hs := z2.mp c
          obtain ⟨A1, e1⟩ : ∃ A1, (valV A b n).2 = some A1 := Option.isSome_iff_exists.mp hs
          have : A1 = A' := eA _ e1
          subst this
          have e06 := valV_06 e1
          refine ⟨W2.kd, _, o_thr0 hl 1, fun o3 h3 y => Or.inl ⟨0, y.1, fun q => absurd rfl q, fun _ => ?_⟩⟩
          rw [y.2]
          have a2 := W2.at (k := 0) (j := 6) (n := 2) (d0 (by decide)) rfl
          refine ⟨_, W2.r1, _, a2, fun d => ?_, fun d => ?_⟩
          · have lt : A 0 6 < 12 := by
              obtain ⟨i, hi, ei⟩ := L6
              rw [e06] at d
              rw [ei] at d ⊢
              refine nI_lt (b := 12) ?_ (by decide)
              have : i ≠ 12 := fun z => d (by rw [z]; rfl)
              omega
            have eQ : valQ A b n = (0, A1 0 6 + 1) := by unfold valQ; rw [e1]; exact if_pos lt
            have eS : valS A b n = some (up A1 0 6 (A1 0 6 + 1)) := by unfold valS; rw [e1]; exact if_pos lt
            refine ⟨W2.kd, _, o_thr0 hl 2, fun o4 h4 y => Or.inl ⟨0, y.1, fun _ => ?_, fun q => absurd rfl q⟩⟩
            rw [y.2]
            refine ⟨_, W2.r1, _, a2, W2.wr hm (n := 2) (by omega), ?_⟩
            have W5 := W2.set (k := 0) (j := 6) (n := 2) (d0 (by decide)) rfl (A1 0 6 + 1)
            show Ev G m_Mo_valley 129 [.ref m, un, un] [] (hset g2 (m + 1) 2 (.int (A1 0 6 + 1))) 0 0 _
            have F5 : Fs (mY m) h (hset g2 (m + 1) 2 (.int (A1 0 6 + 1))) := F2.set (Or.inr (Or.inr (mW_at (by decide) (by decide))))
            have T5 : TpM (hset g2 (m + 1) 2 (.int (A1 0 6 + 1))) m b 0 n := T2.keep (P := fun a j => a = m + 1) (Fs.rf.set rfl) (fun a j z q => by omega)
            have f5 : (hset g2 (m + 1) 2 (.int (A1 0 6 + 1))).2.1 m 14 = .int fl' := by rw [hs_ne (by omega)]; exact f14
            have f50 : (hset g2 (m + 1) 2 (.int (A1 0 6 + 1))).2.1 m 0 = .int 0 := by rw [hs_ne (by omega)]; exact e02
            generalize hset g2 (m + 1) 2 (.int (A1 0 6 + 1)) = g5 at *
            have M5 := M.via W5 F5
            refine e_Mo_valley_129 hl _ _ m ⟨⟨hm, W5.kd⟩, e_Mo_valley_134 hl _ _ m ?_⟩
            have F6 : Fs (fun a j => a = m ∧ j = 7) g5 (hset g5 m 7 (.int 0)) := Fs.rf.set ⟨rfl, rfl⟩
            have W6 := W5.keepF F6 (fun j _ z => by omega) (fun j _ z => by omega)
            have a6 := W6.at (k := 0) (j := 6) (n := 2) (d0 (by decide)) rfl
            rw [up_same] at a6
            refine ⟨_, W6.r1, _, a6, ?_⟩
            unfold mVal
            rw [eQ, eS]
            refine ⟨rfl, by rw [hs_ne (by omega)]; exact f50, (mY_Z (F5.mono (fun a j z => Or.inl z))).set (by unfold mZ; omega), ?_, ⟨n, T5.keep F6 (fun a j z q => by omega)⟩, by rw [hs_ne (by omega), ← ef]; exact f5⟩
            obtain ⟨-, L5, I5, -, c5, -⟩ := M5
            exact ⟨W6, L5.congr (fun j hj => F6.2.2 _ _ (by omega)), I5.keep (F6.2.2 _ _ (by omega)) (fun j _ => F6.2.2 _ _ (by omega)), ⟨by omega, hs_eq⟩, fun j hj => by rw [F6.2.2 _ _ (by omega)]; exact c5 j hj, fun i hi => by omega⟩
          · have nlt : ¬ A 0 6 < 12 := by
              rw [← e06]
              rw [show A1 0 6 = 12 from d]; decide
            have eQ : valQ A b n = (2, 0) := by unfold valQ; rw [e1]; exact if_neg nlt
            have eS : valS A b n = none := by unfold valS; rw [e1]; exact if_neg nlt
            refine ⟨W2.kd, _, o_thr1 hl hm W2 2, fun o4 h4 y => Or.inl ⟨1, y.1, fun q => absurd q one0, fun _ => ?_⟩⟩
            rw [y.2]
            exact rst 2 eQ eS
        · have e1 : (valV A b n).2 = none := by
            cases z : (valV A b n).2 with
            | none => rfl
            | some a => exact absurd (z2.mpr (by rw [z]; rfl)) c
          have eQ : valQ A b n = (1, 0) := by unfold valQ; rw [e1]
          have eS : valS A b n = none := by unfold valS; rw [e1]
          refine ⟨W2.kd, _, o_thr1 hl hm W2 1, fun o4 h4 y => Or.inl ⟨1, y.1, fun _ => ?_, fun q => absurd q one0⟩⟩
          rw [y.2]
          exact rst 1 eQ eS
      refine ⟨y, z1, fun c => ⟨⟨hm, W1.kd⟩, main _ ?_⟩, fun c => ?_⟩
      · unfold vR; rw [if_pos (z2.mp c)]
      · have e1 : (valV A b n).2 = none := by
          cases z : (valV A b n).2 with
          | none => rfl
          | some a => exact absurd (z2.mpr (by rw [z]; rfl)) c
        refine ⟨_, ⟨W1.kd, zB e1⟩, ⟨hm, W1.kd⟩, main _ ?_⟩
        unfold vR; rw [e1]; rfl
    · refine e_Mo_valley_2 hl _ _ m _ ⟨fun c => absurd c (nI_ge ht (by decide)), fun _ => ⟨m + 3, ⟨kd t, by rw [k _ _ _ (by omega)]; exact r3⟩, m + 1, ⟨kd t, by rw [k _ _ _ (by omega)]; exact W.r1.2⟩, w t, aI_of (n := 2092) s1 (by omega) (by decide) (by rw [k _ _ _ (by omega)]; exact Wa.2 t (by omega)), aW_of (n := 1243) (by omega) s3 (by omega) (by decide), ?_⟩⟩
      rw [nI_clamp (by omega)]
      refine e_Mo_valley_21 hl _ _ m _ ?_
      rw [nI_1]
      have es := cpO_s (h := h) (a := m + 3) (da := 0) (b := m + 1) (sb := 0) (t := t)
      rw [show h.2.1 (m + 1) (0 + t) = .int (w t) by rw [Nat.zero_add]; exact Wa.2 t (by omega), Nat.zero_add] at es
      rw [es]; exact ih
  rw [cpO_0] at step
  exact step
end MVA
