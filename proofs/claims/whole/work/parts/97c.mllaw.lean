/-! ===== a law's text: the reference, all of it ===== -/
def LnM (c : Nat → Value) (bs : Nat) (D : List Ln) : Prop := ∀ i l, D[i]? = some l → c (bs + 1 + 4 * i) = .int (nI l.1) ∧ c (bs + 1 + 4 * i + 1) = .int (nI l.2.1) ∧ c (bs + 1 + 4 * i + 2) = .int (nI (cdsD (D.take i)).length) ∧ c (bs + 1 + 4 * i + 3) = .int (nI (cdsD (D.take (i + 1))).length)
def OkL (l : Ln) : Prop := ∀ A p, l.2.2 = ([], []) ∨ runR A p l.2.2.2 [] = some [if holdC A p l.2.2.1 then 1 else 0]
theorem lnL_ok {b : Nat → Nat} {u q q1 : Nat} {l : Ln} (e : lnL b u q = (q1, some l)) : OkL l := by
  intro A p
  unfold lnL at e
  split at e
  · obtain ⟨q2, n, e1, e⟩ := bnd_s e
    split at e
    · obtain ⟨q3, c, e3, e⟩ := bnd_s e
      have e2 := Option.some.inj (Prod.mk.inj e).2
      subst e2
      exact Or.inr (cond_sem e3)
    · have e2 := Option.some.inj (Prod.mk.inj e).2
      subst e2
      exact Or.inl rfl
  · cases (Prod.mk.inj e).2
theorem lnsL_ok {b : Nat → Nat} {u q' : Nat} {D' : List Ln} : ∀ d {D q}, (∀ l ∈ D, OkL l) → lnsL b u d D q = (q', some D') → ∀ l ∈ D', OkL l
  | 0, D, q, F, e => by cases (Prod.mk.inj e).2
  | d + 1, D, q, F, e => by
    unfold lnsL at e
    obtain ⟨q1, l1, e1, e⟩ := bnd_s e
    have F1 : ∀ l ∈ D ++ [l1], OkL l := fun l hl => by
      rcases List.mem_append.mp hl with z | z
      · exact F l z
      · rw [List.mem_singleton.mp z]; exact lnL_ok e1
    split at e
    · rw [← Option.some.inj (Prod.mk.inj e).2]; exact F1
    · split at e
      · exact lnsL_ok d F1 e
      · cases (Prod.mk.inj e).2
theorem lawL_ok {b : Nat → Nat} {u : Nat} {D : List Ln} (e : (lawL b u).2 = some D) : ∀ l ∈ D, OkL l := by
  unfold lawL at e
  split at e
  · rw [← Option.some.inj e]; exact fun l hl => nomatch hl
  · rcases z : lnsL b u 12 [] (sk b u 0) with ⟨q', w⟩
    rw [z] at e
    have e' : w = some D := e
    rw [e'] at z
    exact lnsL_ok 12 (D := []) (fun l hl => by cases hl) z
def mHl (m : Nat) : Nat → Nat → Prop := fun a j => mS m a j ∨ (a = m ∧ (j = 13 ∨ j = 16)) ∨ (a = m + 1 ∧ 1243 ≤ j)
def mlR (G : Gx) (h : Hp) (m : Nat) (tk : Nat → Nat) (A : Vs) (b : Nat → Nat) (u : Nat) (R : Nat × Option (List Ln)) : Res → Hp → Prop := fun o h' => ∃ y, o = .inl (some (.int y)) ∧ (0 ≤ y ↔ R.2.isSome = true) ∧ Fs (mHl m) h h' ∧ ME G h' m tk A b u ∧ (R.2 = none → BgA h' m R.1) ∧ ∀ D, R.2 = some D → y = nI D.length ∧ D.length ≤ 12 ∧ LnM (h'.2.1 (m + 1)) 1243 D ∧ CdA h' m (cdsD D)
section MLL
variable {G : Gx} {h h' h0 : Hp} {tk : Nat → Nat} {m : Nat} {A : Vs} {b : Nat → Nat} {n u q q1 : Nat} {cs cs0 : List (Nat × Nat)} {D : List Ln}
theorem LnM.snoc {c c' : Nat → Value} {bs : Nat} {l : Ln} (L : LnM c bs D) (F : ∀ j, bs + 1 ≤ j → j < bs + 1 + 4 * D.length → c' j = c j) (e : c' (bs + 1 + 4 * D.length) = .int (nI l.1) ∧ c' (bs + 1 + 4 * D.length + 1) = .int (nI l.2.1) ∧ c' (bs + 1 + 4 * D.length + 2) = .int (nI (cdsD D).length) ∧ c' (bs + 1 + 4 * D.length + 3) = .int (nI (cdsD (D ++ [l])).length)) : LnM c' bs (D ++ [l]) := by
  intro i l' hi
  rcases snoc_get hi with ⟨z, y⟩ | ⟨rfl, rfl⟩
  · rw [F _ (by omega) (by omega), F _ (by omega) (by omega), F _ (by omega) (by omega), F _ (by omega) (by omega), List.take_append_of_le_length (by omega), List.take_append_of_le_length (by omega)]
    exact L i l' y
  · rw [List.take_append_of_le_length (Nat.le_refl _), List.take_length, List.take_of_length_le (by rw [List.length_append]; exact Nat.le_refl _)]
    exact e
theorem mG_H {i : Nat} (F : Fs (mG m i) h h') : Fs (mHl m) h h' := F.mono (fun a j z => by
  rcases z with z | z
  · unfold mD mS mE at z; unfold mHl mS; omega
  · unfold mHl; omega)
theorem mHl_s (F : Fs (mS m) h h') : Fs (mHl m) h h' := F.mono (fun _ _ z => Or.inl z)
theorem ml_01 {i : Nat} {R : Nat × Option Ln} {o : Res} (z : mlP G h m tk A b u cs i R o h') {P : Res → Hp → Prop} (hp : ∀ o h', mlP G h m tk A b u cs i R o h' → P o h') : ∃ y, o = .inl (some (.int y)) ∧ (y = 0 → P (.inl (some (.int 0))) h') ∧ (¬ y = 0 → P (.inl (some (.int 1))) h') := by
  have z1 := z.1
  subst z1
  refine ⟨_, rfl, fun c => ?_, fun c => ?_⟩
  · have := hp _ _ z; rw [c] at this; exact this
  · have := hp _ _ z; rw [if_pos (ite1 c)] at this; exact this
theorem ol_rline (hl : G.1.stackTraces = false) (hm : G.n0 ≤ m) (E : ME G h m tk A b u) (C : CdA h m cs) (R : RsA h m b u q) (hc : cs.length ≤ q) {k : Nat} (hk : k < 12) : EvM G m_Mo_readLine [.ref m, .int 0, .int (nI k)] h (mlP G h m tk A b u cs k (lnL b u q)) := by
  refine en_Mo_readLine h _ _ _ _ (e_Mo_readLine_0 hl h _ _ _ _ ⟨E.kd, _, o_letters hl hm E.2.2.1 R, fun o1 h1 z => Or.inl ⟨z.1, fun _ => ⟨fun c => absurd c (nI_ge (b := 12) hk (by decide)), fun _ => ⟨fun _ => ?_, fun c => absurd rfl c⟩⟩, fun c => absurd rfl c⟩⟩)
  obtain ⟨-, L, F1⟩ := z
  have E1 := E.kS hm F1
  have C1 : CdA h1 m cs := C.keep (fun a j z => F1.2.2 a j (by unfold mS; omega))
  exact ⟨E1.kd, _, ol_line hl hm E1 C1 L hc hk, fun o2 h2 z => Or.inl (ml_01 z (fun _ _ z => ⟨z.1, (mG_d (mD_s F1)).tr z.2.1, z.2.2⟩))⟩
theorem ol_rline12 (hl : G.1.stackTraces = false) (hm : G.n0 ≤ m) (E : ME G h m tk A b u) (R : RsA h m b u q) : EvM G m_Mo_readLine [.ref m, .int 0, .int (nI 12)] h (fun o h' => o = .inl (some (.int 0)) ∧ Fs (mS m) h h' ∧ BgA h' m q) := by
  refine en_Mo_readLine h _ _ _ _ (e_Mo_readLine_0 hl h _ _ _ _ ⟨E.kd, _, o_letters hl hm E.2.2.1 R, fun o1 h1 z => Or.inl ⟨z.1, fun _ => ⟨fun _ => ?_, fun c => absurd (Int32.le_refl _) c⟩, fun c => absurd rfl c⟩⟩)
  obtain ⟨-, L, F1⟩ := z
  exact ⟨rfl, F1, L.2.2.2⟩
theorem mlR_no (E : ME G h' m tk A b u) (F : Fs (mHl m) h h') (B : BgA h' m q) : mlR G h m tk A b u (q, none) (.inl (some (.int (-1)))) h' := ⟨_, rfl, ⟨fun z => absurd z not_m1, fun z => nomatch z⟩, F, E, fun _ => B, fun _ z => nomatch z⟩
theorem ol_lines (hl : G.1.stackTraces = false) (hm : G.n0 ≤ m) {P : Res → Hp → Prop} : ∀ d {h : Hp} {D : List Ln} {q : Nat}, D.length + d = 12 → ME G h m tk A b u → CdA h m (cdsD D) → LnM (h.2.1 (m + 1)) 1243 D → RsA h m b u q → (cdsD D).length ≤ q → Fs (mHl m) h0 h → (∀ o h', mlR G h0 m tk A b u (lnsL b u d D q) o h' → P o h') → Ev G m_Mo_readAll 28 [.ref m, .int 0, .int (nI D.length)] [] h 0 0 P := by
  intro d
  induction d with
  | zero =>
    intro h D q hk E C L R hc Fr hP
    have k12 : D.length = 12 := by omega
    rw [k12]
    refine e_Mo_readAll_28 hl h _ _ _ _ ⟨E.kd, _, ol_rline12 hl hm E R, fun o1 h1 z => Or.inl ⟨_, z.1, fun c => absurd rfl c, fun _ => hP _ _ ?_⟩⟩
    obtain ⟨-, F1, B1⟩ := z
    exact mlR_no (E.kS hm F1) (Fr.tr (mHl_s F1)) B1
  | succ d ih =>
    intro h D q hk E C L R hc Fr hP
    have qu0 := R.le.1
    have eL : lnsL b u (d + 1) D q = bnd (lnL b u q) fun q1 l => if tok b u q1 = 0 then (q1, some (D ++ [l])) else if tok b u q1 = 29 then lnsL b u d (D ++ [l]) (nx b u q1) else (q1, none) := rfl
    rw [eL] at hP
    refine e_Mo_readAll_28 hl h _ _ _ _ ⟨E.kd, _, ol_rline hl hm E C R hc (by omega), fun o1 h1 z => Or.inl ?_⟩
    obtain ⟨z1, F1, E1, z4, z5⟩ := z
    rcases e : lnL b u q with ⟨qa, _ | l⟩
    · rw [e] at z1 z4 hP
      exact ⟨_, z1, fun c => absurd rfl c, fun _ => hP _ _ (mlR_no E1 (Fr.tr (mG_H F1)) (z4 rfl))⟩
    · rw [e] at z1 z5 hP
      replace hP : ∀ o h', mlR G h0 m tk A b u (if tok b u qa = 0 then (qa, some (D ++ [l])) else if tok b u qa = 29 then lnsL b u d (D ++ [l]) (nx b u qa) else (qa, none)) o h' → P o h' := hP
      obtain ⟨C1, R1, -, y1, y2, y3, y4⟩ := z5 _ rfl
      obtain ⟨-, p2, -, p4, -, -⟩ := lnL_po qu0 e
      have ec : cdsD D ++ l.2.2.2 = cdsD (D ++ [l]) := by rw [cdsD_app, cdsD_1]
      rw [ec] at C1 y4
      have cb : (cdsD (D ++ [l])).length ≤ qa := by rw [← ec, List.length_append]; omega
      have L1 : LnM (h1.2.1 (m + 1)) 1243 (D ++ [l]) := L.snoc (fun j h1 h2 => F1.2.2 _ _ (by unfold mG mD mS mE; omega)) ⟨y1, y2, y3, y4⟩
      have el : (D ++ [l]).length = D.length + 1 := by rw [List.length_append]; rfl
      obtain ⟨p, hp, sp, f10⟩ := R1
      have sp' : sk b u p = qa := sp
      refine ⟨_, z1, fun _ => ⟨E1.kd, _, o_blanks hl hm E1.2.2.1 hp f10, fun o2 h2 y => Or.inl ⟨y.1, ?_⟩⟩, fun c => absurd c one0⟩
      obtain ⟨-, y2, y3, F2⟩ := y
      rw [sp'] at y2 y3
      have E2 := E1.kS hm F2
      have C2 : CdA h2 m (cdsD (D ++ [l])) := C1.keep (fun a j z => F2.2.2 a j (by unfold mS; omega))
      have L2 : LnM (h2.2.1 (m + 1)) 1243 (D ++ [l]) := by rw [show h2.2.1 (m + 1) = h1.2.1 (m + 1) from funext fun j => F2.2.2 _ _ (by unfold mS; omega)]; exact L1
      have Fr2 := (Fr.tr (mG_H F1)).tr (mHl_s F2)
      have qu : qa ≤ u := by rw [← sp']; exact rn_le hp
      have u4 := E2.2.2.1.u400
      refine ⟨_, ⟨E2.kd, y2⟩, _, E2.2.2.1.f11, fun c => ?_, fun c => ?_⟩
      · have c' : ¬ tok b u qa = 0 := fun z => c (by rw [show qa = u by have := tok_0.mp z; omega])
        rw [if_neg c'] at hP
        refine ⟨E2.kd, _, o_isAt hl E2.2.2.1 (lo := 59) (hi := 59) qu y2 (by omega) (by omega), fun s => ?_, fun s => ?_⟩
        · have s' := ite1 s
          have t : tok b u qa = 29 := (tok_sign (c := 59) (by decide) (by decide) rfl (by decide) (by decide)).mpr ⟨s'.1, by omega⟩
          rw [if_pos t] at hP
          refine ⟨_, ⟨E2.kd, y2⟩, ⟨hm, E2.kd⟩, e_Mo_readAll_81 hl _ _ _ _ _ ?_⟩
          rw [nI_1, nI_1, ← el]
          have F3 : Fs (mS m) h2 (hset h2 m 10 (.int (nI (qa + 1)))) := Fs.rf.set ⟨rfl, Or.inl rfl⟩
          have g3 := nx_gt (b := b) s'.1
          exact ih (by omega) (E2.kS hm F3) (C2.keep (fun a j z => F3.2.2 a j (by unfold mS; omega))) (by rw [show (hset h2 m 10 (.int (nI (qa + 1)))).2.1 (m + 1) = h2.2.1 (m + 1) from funext fun j => F3.2.2 _ _ (by unfold mS; omega)]; exact L2) ⟨qa + 1, by omega, (nx_sign (by decide) (by decide) t).symm, hs_eq⟩ (by omega) (Fr2.tr (mHl_s F3)) hP
        · have s' : ¬ tok b u qa = 29 := fun z => ite0 s (by have := (tok_sign (c := 59) (by decide) (by decide) rfl (by decide) (by decide)).mp z; omega)
          rw [if_neg s'] at hP
          exact hP _ _ (mlR_no E2 Fr2 y3)
      · have t : tok b u qa = 0 := tok_0.mpr (by have := (nI_eq (by omega) (by omega)).mp c; omega)
        rw [if_pos t] at hP
        refine hP _ _ ⟨_, rfl, ⟨fun _ => rfl, fun _ => by rw [nI_1]; exact nI_pos' (by omega)⟩, Fr2, E2, fun z => (nomatch z), fun D' z => ?_⟩
        cases z
        exact ⟨by rw [el, nI_1], by omega, L2, C2⟩
def mX (m : Nat) : Nat → Nat → Prop := fun a j => (a = m ∧ (j = 0 ∨ (9 ≤ j ∧ j ≤ 14) ∨ j = 16)) ∨ (a = m + 1 ∧ 1243 ≤ j)
def mRL (h : Hp) (m : Nat) (A : Vs) (b : Nat → Nat) (n : Nat) : Res → Hp → Prop := fun o h' => ∃ y, o = .inl (some (.int y)) ∧ (0 ≤ y ↔ (lawL b n).2.isSome = true) ∧ Fs (mX m) h h' ∧ h'.2.1 m 0 = .int 0 ∧ TpM h' m b 0 n ∧ WldAt h' m A ∧ ((lawL b n).2 = none → BgA h' m (lawL b n).1) ∧ ∀ D, (lawL b n).2 = some D → y = nI D.length ∧ D.length ≤ 12 ∧ LnM (h'.2.1 (m + 1)) 1243 D ∧ CdA h' m (cdsD D)
theorem o_readL (hl : G.1.stackTraces = false) (hm : G.n0 ≤ m) (O : Old G h tk) (Lg : LitG G h) (Tp : TpM h m b n u) (W : WldAt h m A) : EvM G m_Mo_readAll [.ref m, .int 0] h (mRL h m A b n) := by
  have n4 : n ≤ 400 := Tp.2.2.2.2.2.1.1
  refine en_Mo_readAll h _ _ _ (e_Mo_readAll_0 hl h _ _ _ ⟨W.kd, _, o_uses hl hm Tp, fun o1 h1 z => Or.inl ⟨z.1, ?_⟩⟩)
  obtain ⟨-, T1, F1, f10⟩ := z
  have Fa : Fs (fun a j => a = m ∧ (j = 0 ∨ (9 ≤ j ∧ j ≤ 12) ∨ j = 16)) h (hset h1 m 16 (.int 0)) := ((Fs.rf.set ⟨rfl, by omega⟩).tr (F1.mono (fun a j z => by unfold mT at z; omega))).set ⟨rfl, by omega⟩
  have T2 : TpM (hset h1 m 16 (.int 0)) m b 0 n := T1.keep (P := fun a j => a = m ∧ j = 16) (Fs.rf.set ⟨rfl, rfl⟩) (fun a j z q => by omega)
  have f2 : (hset h1 m 16 (.int 0)).2.1 m 10 = .int (nI 0) := by rw [hs_ne (by omega)]; exact f10
  have f0 : (hset h1 m 16 (.int 0)).2.1 m 0 = .int 0 := by rw [hs_ne (by omega), F1.2.2 m 0 (by unfold mT; omega)]; exact hs_eq
  have f16 : (hset h1 m 16 (.int 0)).2.1 m 16 = .int 0 := hs_eq
  refine ⟨⟨hm, T1.kd⟩, ?_⟩
  generalize hset h1 m 16 (.int 0) = g at *
  have od : ∀ a, a < G.n0 → g.1 a = h.1 a ∧ g.2.1 a = h.2.1 a := fun a ha => ⟨by rw [Fa.1], funext fun j => Fa.2.2 a j (by omega)⟩
  have E2 : ME G g m tk A b n := ⟨O.keep od, Lg.keep od, T2, W.keepF Fa (fun j hj z => by omega) (fun j _ z => by omega)⟩
  refine e_Mo_readAll_9 hl _ _ _ _ ⟨E2.kd, _, o_blanks hl hm T2 (p := 0) (Nat.zero_le _) f2, fun o3 h3 y => Or.inl ⟨y.1, ?_⟩⟩
  obtain ⟨-, y2, y3, F3⟩ := y
  have E3 := E2.kS hm F3
  have F03 : Fs (mX m) h h3 := (Fa.mono (fun a j z => Or.inl ⟨z.1, by omega⟩)).tr (F3.mono (fun a j z => by unfold mS at z; exact Or.inl ⟨z.1, by omega⟩))
  have e3 : h3.2.1 m 0 = .int 0 := by rw [F3.2.2 m 0 (by unfold mS; omega)]; exact f0
  have C3 : CdA h3 m (cdsD []) := ⟨by rw [F3.2.2 m 16 (by unfold mS; omega)]; exact f16, Nat.zero_le _, fun j k n z => by simp [cdsD] at z⟩
  have L3 : LnM (h3.2.1 (m + 1)) 1243 [] := fun i l z => by simp at z
  have sq : sk b n 0 ≤ n := rn_le (Nat.zero_le _)
  refine ⟨_, ⟨E3.kd, y2⟩, _, E3.2.2.1.f11, fun c => ?_, fun c => ?_⟩
  · have c' : ¬ tok b n (sk b n 0) = 0 := fun z => c (by rw [show sk b n 0 = n by have := tok_0.mp z; omega])
    have ev : lawL b n = lnsL b n 12 [] (sk b n 0) := by unfold lawL; rw [if_neg c']
    refine ol_lines hl hm (h0 := h3) 12 (D := []) rfl E3 C3 L3 ⟨sk b n 0, sq, sk_sk, y2⟩ (Nat.zero_le _) Fs.rf (fun o h' z => ?_)
    obtain ⟨y, z1, z2, z3, E', z4, z5⟩ := z
    rw [← ev] at z2 z4 z5
    exact ⟨y, z1, z2, F03.tr (z3.mono (fun a j z => by unfold mHl mS at z; unfold mX; omega)), by rw [z3.2.2 m 0 (by unfold mHl mS; omega)]; exact e3, E'.2.2.1, E'.W, z4, z5⟩
  · have t : tok b n (sk b n 0) = 0 := tok_0.mpr (by have := (nI_eq (by omega) (by omega)).mp c; omega)
    have ev : lawL b n = (sk b n 0, some []) := by unfold lawL; rw [if_pos t]
    unfold mRL
    rw [ev]
    exact ⟨_, rfl, ⟨fun _ => rfl, fun _ => by decide⟩, F03, e3, E3.2.2.1, E3.W, fun z => (nomatch z), fun D z => by cases z; exact ⟨rfl, by decide, L3, C3⟩⟩
end MLL
