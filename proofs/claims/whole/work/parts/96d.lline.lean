/-! ===== a law's text: the class's lines ===== -/
def opsD (D : List Ln) : List Int32 := D.flatMap (fun l => l.2.2.1)
def cdsD (D : List Ln) : List (Nat × Nat) := D.flatMap (fun l => l.2.2.2)
theorem opsD_app (D E : List Ln) : opsD (D ++ E) = opsD D ++ opsD E := List.flatMap_append ..
theorem cdsD_app (D E : List Ln) : cdsD (D ++ E) = cdsD D ++ cdsD E := List.flatMap_append ..
theorem opsD_1 (l : Ln) : opsD [l] = l.2.2.1 := by unfold opsD; simp
theorem cdsD_1 (l : Ln) : cdsD [l] = l.2.2.2 := by unfold cdsD; simp
def LkA (h : Hp) (x : Nat) (D : List Ln) : Prop := ∀ i l, D[i]? = some l → h.2.1 (x + 18) i = .int (nI l.1) ∧ h.2.1 (x + 19) i = .int (nI l.2.1) ∧ h.2.1 (x + 20) i = .int (nI (opsD (D.take (i + 1))).length)
def lK (x i : Nat) : Nat → Nat → Prop := fun a j => (a = x + 18 ∨ a = x + 19 ∨ a = x + 20) ∧ j = i
def lZ (x i : Nat) : Nat → Nat → Prop := fun a j => lQ x a j ∨ lK x i a j
def lnP (G : Gx) (h : Hp) (x : Nat) (tk : Nat → Nat) (b : Nat → Nat) (u : Nat) (os : List Int32) (i : Nat) (R : Nat × Option Ln) : Res → Hp → Prop := fun o h' => o = .inl (some (.int (if R.2.isSome = true then 1 else 0))) ∧ Fs (lZ x i) h h' ∧ ∃ os', LE G h' x tk b u R.1 os' ∧ ∀ l, R.2 = some l → os' = os ++ l.2.2.1 ∧ h'.2.1 (x + 18) i = .int (nI l.1) ∧ h'.2.1 (x + 19) i = .int (nI l.2.1) ∧ h'.2.1 (x + 20) i = .int (nI os'.length)
def kI (o : Nat) : Int32 := if kn o < 3 then nI (kn o) else -1
theorem kn_no : ∀ o, o < 35 → o ≠ 5 → o ≠ 18 → o ≠ 19 → ¬ kn o < 3 := by decide +kernel
theorem kn_0 : ∀ o, o < 35 → kn o < 3 → 3 ≤ o ∧ o < 29 := by decide +kernel
theorem kI_m (o : Nat) : kI o = -1 ↔ ¬ kn o < 3 := by
  unfold kI
  by_cases c : kn o < 3
  · rw [if_pos c]; exact ⟨fun z => absurd z (m1_ne (by omega)), fun z => absurd c z⟩
  · rw [if_neg c]; exact ⟨fun _ => c, fun _ => rfl⟩
/-- how far a line goes -/
theorem lnL_po {b : Nat → Nat} {u q q1 : Nat} {l : Ln} (hq : q ≤ u) (e : lnL b u q = (q1, some l)) : q < q1 ∧ q1 ≤ u ∧ l.2.2.1.length + 2 * q ≤ 2 * q1 ∧ l.2.2.2.length + q ≤ q1 ∧ l.1 < 3 ∧ l.2.1 ≤ 40 := by
  unfold lnL at e
  split at e
  · rename_i k
    have lt : q < u := tok_in (o := tok b u q) rfl (by have := kn_0 _ tok_lt k; omega)
    have g := nx_gt (b := b) lt
    have l' := nx_le (b := b) lt
    obtain ⟨q2, n, e1, e⟩ := bnd_s e
    have nb := num_b e1
    have q2e : q2 = nx b u (nx b u q) ∧ nx b u q < u := by
      rcases num_c e1 with ⟨c, z, -⟩ | ⟨-, -, z⟩
      · exact ⟨z, tok_in c.1 (by decide)⟩
      · cases z
    have g2 := nx_gt (b := b) q2e.2
    have l2 := nx_le (b := b) q2e.2
    split at e
    · rename_i t
      have lt3 := tok_in t (by decide)
      have g3 := nx_gt (b := b) lt3
      have l3 := nx_le (b := b) lt3
      obtain ⟨q3, c, e3, e⟩ := bnd_s e
      obtain ⟨p1, p2, p3, p4⟩ := orL_po (atmL_po 6) _ _ _ l3 e3
      obtain ⟨e1, e2⟩ := Prod.mk.inj e
      have e2 := Option.some.inj e2
      subst e1; subst e2
      exact ⟨by omega, p2, by simp only; omega, by simp only; omega, k, nb.2⟩
    · obtain ⟨e1, e2⟩ := Prod.mk.inj e
      have e2 := Option.some.inj e2
      subst e1; subst e2
      exact ⟨by omega, by omega, by simp only [List.length_nil]; omega, by simp only [List.length_nil]; omega, k, nb.2⟩
  · cases (Prod.mk.inj e).2
section CLL
variable {G : Gx} {h h' h0 : Hp} {tk : Nat → Nat} {x : Nat} {b : Nat → Nat} {n u q q1 : Nat} {os os0 : List Int32} {D : List Ln}
theorem lr_kindOf (hl : G.1.stackTraces = false) (E : LE G h x tk b u q os) {o : Nat} (ho : o < 35) : EvI G m_Lr_kindOf [.ref (tk o)] h (kI o) := by
  refine en_Lr_kindOf h _ _ (e_Lr_kindOf_0 hl h _ _ ⟨_, E.st (o := 5) (by decide), fun c => ⟨_, E.st (o := 18) (by decide), fun d => ⟨_, E.st (o := 19) (by decide), fun f => ⟨?_, rfl⟩, fun f => ⟨?_, rfl⟩⟩, fun d => ⟨?_, rfl⟩⟩, fun c => ⟨?_, rfl⟩⟩)
  · rw [(kI_m o).mpr (kn_no o ho (fun z => c (by rw [z])) (fun z => d (by rw [z])) (fun z => f (by rw [z])))]
  · have : o = 19 := E.1.2.1 _ _ ho (by decide) f
    subst this; rfl
  · have : o = 18 := E.1.2.1 _ _ ho (by decide) d
    subst this; rfl
  · have : o = 5 := E.1.2.1 _ _ ho (by decide) c
    subst this; rfl
theorem RdS.rows (S : RdS h x) {i : Nat} (F : Fs (lK x i) h h') (e : ∀ a, x + 18 ≤ a → a ≤ x + 20 → ∃ y, h'.2.1 a i = .int y) : RdS h' x := by
  obtain ⟨⟨c1, c2, c3, c4⟩, c5, ⟨c8, c9⟩, ⟨d1, d2, d3, d4, d5, d6⟩, d7, d11⟩ := S
  have e1 := F.1
  have e2 : ∀ a j, ¬ lK x i a j → h'.2.1 a j = h.2.1 a j := F.2.2
  refine ⟨⟨by rw [e1]; exact c1, by rw [e2 _ _ (by unfold lK; omega)]; exact c2, by rw [e2 _ _ (by unfold lK; omega)]; exact c3, by rw [e2 _ _ (by unfold lK; omega)]; exact c4⟩, by rw [e1]; exact c5, ⟨by rw [e1]; exact c8, by rw [e2 _ _ (by unfold lK; omega)]; exact c9⟩, ⟨by rw [e1]; exact d1, by rw [e2 _ _ (by unfold lK; omega)]; exact d2, by rw [e2 _ _ (by unfold lK; omega)]; exact d3, by rw [e2 _ _ (by unfold lK; omega)]; exact d4, by rw [e2 _ _ (by unfold lK; omega)]; exact d5, by rw [e2 _ _ (by unfold lK; omega)]; exact d6⟩, by rw [e1]; exact d7, fun a j h1 h2 h3 => ?_⟩
  by_cases z : j = i
  · rw [z]; exact e a h1 h2
  · rw [e2 _ _ (by unfold lK; omega)]; exact d11 a j h1 h2 h3
theorem LE.row (E : LE G h x tk b u q os) (hx : G.n0 ≤ x) {a i : Nat} (ha : x + 18 ≤ a ∧ a ≤ x + 20) (hi : i < 12) (y : Int32) : LE G (hset h a i (.int y)) x tk b u q os := by
  have F : Fs (lK x i) h (hset h a i (.int y)) := Fs.rf.set ⟨by omega, rfl⟩
  refine ⟨E.1.keepF F (fun a j z => by unfold lK at z; omega), E.2.1.rows F (fun c h1 h2 => ?_), E.2.2.1.keep (fun a j h1 h2 => F.2.2 a j (by unfold lK; omega)), E.2.2.2.keep (fun a j z => F.2.2 a j (by unfold lK; omega))⟩
  by_cases z : c = a
  · subst z; exact ⟨y, hs_eq⟩
  · rw [hs_ne (by omega)]; exact E.2.1.2.2.2.2.2 c i h1 h2 hi
theorem LE.w1 (E : LE G h x tk b u q os) : fR h 2 (x + 17) 1 (x + 18) := ⟨E.kd, E.2.1.2.2.2.1.2.2.1⟩
theorem LE.w2 (E : LE G h x tk b u q os) : fR h 2 (x + 17) 2 (x + 19) := ⟨E.kd, E.2.1.2.2.2.1.2.2.2.1⟩
theorem LE.w3 (E : LE G h x tk b u q os) : fR h 2 (x + 17) 3 (x + 20) := ⟨E.kd, E.2.1.2.2.2.1.2.2.2.2.1⟩
theorem LE.w6 (E : LE G h x tk b u q os) : fI h 2 (x + 17) 6 (nI os.length) := ⟨E.kd, E.2.2.2.1⟩
theorem lZ_q {i : Nat} (F : Fs (lQ x) h h') : Fs (lZ x i) h h' := F.mono (fun _ _ z => Or.inl z)
theorem l_line (hl : G.1.stackTraces = false) (hx : G.n0 ≤ x) (hu : u ≤ 400) (E : LE G h x tk b u q os) (hb : os.length ≤ 2 * q) {i : Nat} (hi : i < 12) : EvM G m_Lr_readLine [.ref (x + 17), .int (nI i)] h (lnP G h x tk b u os i (lnL b u q)) := by
  refine en_Lr_readLine h _ _ _ (e_Lr_readLine_0 hl h _ _ _ ⟨_, E.r, E.k5, _, r_token hl E.2.1 E.2.2.1, fun o1 h1 z => Or.inl ⟨_, z.1, ?_⟩⟩)
  rw [z.2]
  refine ⟨_, lr_kindOf hl E tok_lt, fun c => ?_, fun c => ?_⟩
  · have k3 : kn (tok b u q) < 3 := by
      by_cases z : kn (tok b u q) < 3
      · exact z
      · exact absurd ((kI_m _).mpr z) c
    have ek : kI (tok b u q) = nI (kn (tok b u q)) := by unfold kI; rw [if_pos k3]
    have lt : q < u := tok_in (o := tok b u q) rfl (by have := kn_0 _ tok_lt k3; omega)
    have g := nx_gt (b := b) lt
    have l' := nx_le (b := b) lt
    unfold lnL
    rw [if_pos k3]
    refine ⟨_, E.r, E.k5, _, l_step hl hx E lt, fun o2 h2 z => Or.inl ⟨z.1, ?_⟩⟩
    obtain ⟨-, F2, E2⟩ := z
    rcases en_ : num b u 0 40 (nx b u q) with ⟨qa, _ | nn⟩
    · refine ⟨_, E2.r, E2.k5, _, r_takeNum hl hx E2.1 E2.2.1 E2.2.2.1 (lo := 0) (hi := 40) (by omega) (by omega) en_, fun o3 h3 z => Or.inl ⟨_, z.1, fun c => absurd rfl c, fun _ => ?_⟩⟩
      obtain ⟨-, F3, R3, -⟩ := z
      exact ⟨rfl, lZ_q (F2.tr (lQ_r F3)), os, E2.rd hx F3 R3, fun _ z => nomatch z⟩
    · refine ⟨_, E2.r, E2.k5, _, r_takeNum hl hx E2.1 E2.2.1 E2.2.2.1 (lo := 0) (hi := 40) (by omega) (by omega) en_, fun o3 h3 z => Or.inl ⟨_, z.1, fun _ => ?_, fun c => absurd c one0⟩⟩
      obtain ⟨-, F3, R3, v5⟩ := z
      have v5 := v5 nn rfl
      have E3 := E2.rd hx F3 R3
      have qae : qa = nx b u (nx b u q) ∧ nx b u q < u := by
        rcases num_c en_ with ⟨c, z, -⟩ | ⟨-, -, z⟩
        · exact ⟨z, tok_in c.1 (by decide)⟩
        · cases z
      have g2 := nx_gt (b := b) qae.2
      refine ⟨_, E3.w1, aW_of (by omega) E3.2.1.2.2.2.2.1.1 hi (by decide), ?_⟩
      rw [nI_clamp (by omega), ek]
      have E4 := E3.row hx (a := x + 18) (i := i) (by omega) hi (nI (kn (tok b u q)))
      have F4 : Fs (lZ x i) h (hset h3 (x + 18) i (.int (nI (kn (tok b u q))))) := (lZ_q (F2.tr (lQ_r F3))).set (Or.inr ⟨by omega, rfl⟩)
      have v4 : (hset h3 (x + 18) i (.int (nI (kn (tok b u q))))).2.1 (x + 12) 5 = .int (nI nn) := by rw [hs_ne (by omega)]; exact v5
      have k4 : (hset h3 (x + 18) i (.int (nI (kn (tok b u q))))).2.1 (x + 18) i = .int (nI (kn (tok b u q))) := hs_eq
      generalize hset h3 (x + 18) i (.int (nI (kn (tok b u q)))) = g4 at *
      refine e_Lr_readLine_47 hl _ _ _ _ ⟨_, E4.w2, _, E4.r, _, ⟨E4.k5, v4⟩, aW_of (by omega) E4.2.1.2.2.2.2.1.2.1 hi (by decide), ?_⟩
      rw [nI_clamp (by omega)]
      have E5 := E4.row hx (a := x + 19) (i := i) (by omega) hi (nI nn)
      have F5 : Fs (lZ x i) h (hset g4 (x + 19) i (.int (nI nn))) := F4.set (Or.inr ⟨by omega, rfl⟩)
      have k5 : (hset g4 (x + 19) i (.int (nI nn))).2.1 (x + 18) i = .int (nI (kn (tok b u q))) := by rw [hs_ne (by omega)]; exact k4
      have a5 : (hset g4 (x + 19) i (.int (nI nn))).2.1 (x + 19) i = .int (nI nn) := hs_eq
      generalize hset g4 (x + 19) i (.int (nI nn)) = g5 at *
      /- the end of a line -/
      have fin : ∀ {g6 : Hp} {os6 : List Int32} {q6 : Nat} (v : Int32) (R : Nat × Option Ln), LE G g6 x tk b u q6 os6 → Fs (lQ x) g5 g6 → R.1 = q6 → v = (if R.2.isSome = true then 1 else 0) → (∀ l, R.2 = some l → l.1 = kn (tok b u q) ∧ l.2.1 = nn ∧ os6 = os ++ l.2.2.1) → ∃ y7, fR g6 2 (x + 17) 3 y7 ∧ ∃ x8, fI g6 2 (x + 17) 6 x8 ∧ aW G g6 101 y7 (nI i) ∧ Ev G m_Lr_readLine 97 [un, un, un, .int v] [] (hset g6 y7 (Int32.toNatClampNeg (nI i)) (.int x8)) 0 0 (lnP G h x tk b u os i R) := by
        intro g6 os6 q6 v R E6 F6 eq ev el
        subst eq
        refine ⟨_, E6.w3, _, E6.w6, aW_of (by omega) E6.2.1.2.2.2.2.1.2.2.1 hi (by decide), ?_⟩
        rw [nI_clamp (by omega)]
        refine e_Lr_readLine_97 hl _ _ _ (bret_of ?_ ⟨by rw [ev], (F5.tr (lZ_q F6)).set (Or.inr ⟨by omega, rfl⟩), os6, E6.row hx (by omega) hi _, fun l z => ?_⟩)
        · rw [ev]
          cases R.2 with
          | none => exact Or.inl rfl
          | some a => exact Or.inr rfl
        · obtain ⟨e1, e2, e3⟩ := el l z
          exact ⟨e3, by rw [hs_ne (by omega), F6.2.2 _ _ (by unfold lQ rdQ; omega), e1]; exact k5, by rw [hs_ne (by omega), F6.2.2 _ _ (by unfold lQ rdQ; omega), e2]; exact a5, hs_eq⟩
      refine e_Lr_readLine_60 hl _ _ _ _ ⟨_, E5.r, _, E5.st (o := 20) (by decide), E5.k5, _, l_tk hl hx E5 (o := 20) (by decide) (by decide), fun o6 h6 z => Or.inl ⟨_, z.1, fun d => ?_, fun d => ?_⟩⟩
      · obtain ⟨-, F6, E6⟩ := z
        have d' : ¬ tok b u qa = 20 := ite0 d
        have E6' : LE G h6 x tk b u qa os := by rw [if_neg d'] at E6; exact E6
        show ∃ y7, _
        rw [show (bnd ((qa, some nn) : Nat × Option Nat) fun q1 n => if tok b u q1 = 20 then bnd (orL (atmL b u 6) b u (nx b u q1)) fun q2 c => (q2, some (kn (tok b u q), n, c)) else (q1, some (kn (tok b u q), n, ([], [])))) = (if tok b u qa = 20 then bnd (orL (atmL b u 6) b u (nx b u qa)) fun q2 c => (q2, some (kn (tok b u q), nn, c)) else (qa, some (kn (tok b u q), nn, ([], [])))) from rfl, if_neg d']
        exact fin 1 _ E6' F6 rfl rfl (fun l z => by cases z; exact ⟨rfl, rfl, (List.append_nil _).symm⟩)
      · obtain ⟨-, F6, E6⟩ := z
        have d' : tok b u qa = 20 := ite1 d
        have E6' : LE G h6 x tk b u (nx b u qa) os := by rw [if_pos d'] at E6; exact E6
        have lt6 := tok_in d' (by decide)
        have g6 := nx_gt (b := b) lt6
        have l6 := nx_le (b := b) lt6
        show (h6.1 (x + 17)).1 = 2 ∧ _
        rw [show (bnd ((qa, some nn) : Nat × Option Nat) fun q1 n => if tok b u q1 = 20 then bnd (orL (atmL b u 6) b u (nx b u q1)) fun q2 c => (q2, some (kn (tok b u q), n, c)) else (q1, some (kn (tok b u q), n, ([], [])))) = (if tok b u qa = 20 then bnd (orL (atmL b u 6) b u (nx b u qa)) fun q2 c => (q2, some (kn (tok b u q), nn, c)) else (qa, some (kn (tok b u q), nn, ([], [])))) from rfl, if_pos d']
        refine ⟨E6'.kd, _, l_cond hl hx hu E6' (by omega), fun o7 h7 z => Or.inl ?_⟩
        obtain ⟨z1, F7, os7, E7, z4⟩ := z
        rcases ec : orL (atmL b u 6) b u (nx b u qa) with ⟨qb, _ | cc⟩
        · rw [ec] at z1 E7
          exact ⟨_, z1, fun _ => fin 0 (qb, none) E7 (F6.tr F7) rfl rfl (fun l z => nomatch z), fun c => absurd rfl c⟩
        · rw [ec] at z1 E7 z4
          have e7 := z4 _ rfl
          exact ⟨_, z1, fun c => absurd c one0, fun _ => fin 1 (qb, some (kn (tok b u q), nn, cc)) E7 (F6.tr F7) rfl rfl (fun l z => by cases z; exact ⟨rfl, rfl, e7⟩)⟩
  · have k3 := (kI_m _).mp c
    unfold lnL
    rw [if_neg k3]
    exact ⟨rfl, Fs.rf, os, E, fun _ z => nomatch z⟩
def lX (x : Nat) : Nat → Nat → Prop := fun a j => rdX x a j ∨ (a = x + 17 ∧ 5 ≤ j) ∨ (x + 18 ≤ a ∧ a ≤ x + 21)
def lR (R : Nat × Option (List Ln)) : Int32 := if R.2.isSome = true then -1 else nI R.1
def lRd (h : Hp) (x : Nat) (R : Nat × Option (List Ln)) : Res → Hp → Prop := fun o h' => o = .inl (some (.int (lR R))) ∧ Fs (lX x) h h' ∧ RdS h' x ∧ R.1 < 2 ^ 31 ∧ ∀ D, R.2 = some D → h'.2.1 (x + 17) 5 = .int (nI D.length) ∧ D.length ≤ 12 ∧ LkA h' x D ∧ LrA h' x (opsD D)
theorem lZ_X {i : Nat} (F : Fs (lZ x i) h h') : Fs (lX x) h h' := F.mono (fun a j z => by
  rcases z with z | z
  · unfold lQ rdQ at z; unfold lX rdX; omega
  · unfold lK at z; unfold lX; omega)
theorem LkA.snoc {l : Ln} (L : LkA h x D) (F : ∀ a j, x + 18 ≤ a → a ≤ x + 20 → j ≠ D.length → h'.2.1 a j = h.2.1 a j) (e : h'.2.1 (x + 18) D.length = .int (nI l.1) ∧ h'.2.1 (x + 19) D.length = .int (nI l.2.1) ∧ h'.2.1 (x + 20) D.length = .int (nI (opsD (D ++ [l])).length)) : LkA h' x (D ++ [l]) := by
  intro i l' hi
  rcases snoc_get hi with ⟨z, y⟩ | ⟨rfl, rfl⟩
  · rw [F _ _ (by omega) (by omega) (by omega), F _ _ (by omega) (by omega) (by omega), F _ _ (by omega) (by omega) (by omega), List.take_append_of_le_length (by omega)]
    exact L i l' y
  · rw [List.take_of_length_le (by rw [List.length_append]; exact Nat.le_refl _)]
    exact e
theorem LkA.keep (L : LkA h x D) (F : ∀ a j, x + 18 ≤ a → a ≤ x + 20 → h'.2.1 a j = h.2.1 a j) : LkA h' x D := fun i l hi => by
  rw [F _ _ (by omega) (by omega), F _ _ (by omega) (by omega), F _ _ (by omega) (by omega)]; exact L i l hi
theorem l_lines (hl : G.1.stackTraces = false) (hx : G.n0 ≤ x) (hu : u ≤ 400) : ∀ d {h : Hp} {D : List Ln} {q : Nat}, D.length + d = 12 → LE G h x tk b u q (opsD D) → (opsD D).length ≤ 2 * q → LkA h x D → Fs (lX x) h0 h → Ev G m_Lr_read 39 [.ref (x + 17), un, .int 0, .int (nI D.length)] [] h 0 0 (lRd h0 x (lnsL b u d D q)) := by
  intro d
  induction d with
  | zero =>
    intro h D q hk E hb L Fr
    refine e_Lr_read_39 hl h _ _ _ _ ⟨fun _ => ⟨fun _ => ⟨_, E.r, E.k5, _, r_begin hl E.2.1 E.2.2.1, rfl, Fr, E.2.1, by show q < _; have := E.le; omega, fun _ z => nomatch z⟩, fun c => absurd rfl c⟩, fun c => absurd (nI_le (a := 12) (by omega) (by omega)) c⟩
  | succ d ih =>
    intro h D q hk E hb L Fr
    have qu := E.le
    show Ev G m_Lr_read 39 _ [] h 0 0 (lRd h0 x (bnd (lnL b u q) fun q1 l => if tok b u q1 = 0 then (q1, some (D ++ [l])) else if tok b u q1 = 29 then lnsL b u d (D ++ [l]) (nx b u q1) else (q1, none)))
    refine e_Lr_read_39 hl h _ _ _ _ ⟨fun c => absurd c (nI_ge (b := 12) (by omega) (by omega)), fun _ => ⟨fun c => absurd rfl c, fun _ => ⟨E.kd, _, l_line hl hx hu E hb (by omega), fun o1 h1 z => Or.inl ?_⟩⟩⟩
    obtain ⟨z1, F1, os1, E1, z4⟩ := z
    rcases e : lnL b u q with ⟨qa, _ | l⟩
    · rw [e] at z1 E1
      refine ⟨_, z1, fun c => absurd rfl c, fun _ => ⟨_, E1.r, E1.k5, _, r_begin hl E1.2.1 E1.2.2.1, rfl, Fr.tr (lZ_X F1), E1.2.1, by show qa < _; have : qa ≤ u := E1.le; omega, fun _ z => nomatch z⟩⟩
    · rw [e] at z1 E1 z4
      obtain ⟨e1, e2, e3, e4⟩ := z4 _ rfl
      obtain ⟨p1, p2, p3, -, -, -⟩ := lnL_po qu e
      have eo : os1 = opsD (D ++ [l]) := by rw [e1, opsD_app, opsD_1]
      have lb : (opsD (D ++ [l])).length ≤ 2 * qa := by rw [opsD_app, opsD_1, List.length_append]; omega
      have L1 : LkA h1 x (D ++ [l]) := L.snoc (fun a j h1 h2 h3 => F1.2.2 a j (by unfold lZ lQ rdQ lK; omega)) ⟨e2, e3, by rw [← eo]; exact e4⟩
      rw [eo] at E1
      refine ⟨_, z1, fun _ => ⟨⟨by omega, E1.kd⟩, ?_⟩, fun c => absurd c one0⟩
      rw [nI_1]
      have F2 : Fs (fun a j => a = x + 17 ∧ j = 5) h1 (hset h1 (x + 17) 5 (.int (nI (D.length + 1)))) := Fs.rf.set ⟨rfl, rfl⟩
      have E2 : LE G (hset h1 (x + 17) 5 (.int (nI (D.length + 1)))) x tk b u qa (opsD (D ++ [l])) := ⟨E1.1.keepF F2 (fun a j z => by omega), E1.2.1.keep F2.1 (fun a j z => F2.2.2 a j (by omega)), E1.2.2.1.keep (fun a j h1 h2 => F2.2.2 a j (by omega)), E1.2.2.2.keep (fun a j z => F2.2.2 a j (by omega))⟩
      have L2 : LkA (hset h1 (x + 17) 5 (.int (nI (D.length + 1)))) x (D ++ [l]) := L1.keep (fun a j h1 h2 => F2.2.2 a j (by omega))
      have Fr2 : Fs (lX x) h0 (hset h1 (x + 17) 5 (.int (nI (D.length + 1)))) := (Fr.tr (lZ_X F1)).set (Or.inr (Or.inl ⟨rfl, by omega⟩))
      have f5 : (hset h1 (x + 17) 5 (.int (nI (D.length + 1)))).2.1 (x + 17) 5 = .int (nI (D ++ [l]).length) := by rw [hs_eq, List.length_append]; rfl
      have el : (D ++ [l]).length = D.length + 1 := by rw [List.length_append]; rfl
      generalize hset h1 (x + 17) 5 (.int (nI (D.length + 1))) = g2 at *
      refine e_Lr_read_72 hl _ _ _ _ ⟨_, E2.r, E2.k5, _, r_token hl E2.2.1 E2.2.2.1, fun o3 h3 y => Or.inl ⟨_, y.1, ?_⟩⟩
      rw [y.2, show (bnd ((qa, some l) : Nat × Option Ln) fun q1 l => if tok b u q1 = 0 then (q1, some (D ++ [l])) else if tok b u q1 = 29 then lnsL b u d (D ++ [l]) (nx b u q1) else (q1, none)) = (if tok b u qa = 0 then (qa, some (D ++ [l])) else if tok b u qa = 29 then lnsL b u d (D ++ [l]) (nx b u qa) else (qa, none)) from rfl]
      refine ⟨_, E2.st (o := 0) (by decide), fun c => ⟨fun w => absurd rfl w, fun _ => ⟨_, E2.r, _, E2.st (o := 29) (by decide), E2.k5, _, l_tk hl hx E2 (by decide) (by decide), fun o4 h4 w => Or.inl ⟨_, w.1, fun s => ?_, fun s => ?_⟩⟩⟩, fun c => ⟨fun _ => ?_, fun w => absurd w one0⟩⟩
      · obtain ⟨-, F4, E4⟩ := w
        have t := ite1 s
        rw [if_pos t] at E4
        have g4 := nx_gt (b := b) (tok_in t (by decide))
        rw [if_neg (by rw [t]; decide), if_pos t, nI_1, ← el]
        exact ih (by omega) E4 (by omega) (L2.keep (fun a j h1 h2 => F4.2.2 a j (by unfold lQ rdQ; omega))) (Fr2.tr (lZ_X (lZ_q (i := 0) F4)))
      · obtain ⟨-, F4, E4⟩ := w
        have t := ite0 s
        rw [if_neg t] at E4
        rw [if_neg (fun z => c (by rw [z])), if_neg t]
        exact ⟨_, E4.r, E4.k5, _, r_begin hl E4.2.1 E4.2.2.1, rfl, Fr2.tr (lZ_X (lZ_q (i := 0) F4)), E4.2.1, by simp only; omega, fun _ z => nomatch z⟩
      · have t : tok b u qa = 0 := E2.inj (by decide) c
        rw [if_pos t, nI_1]
        have fin : lRd h0 x (qa, some (D ++ [l])) (.inl (some (.int (-1)))) g2 := ⟨rfl, Fr2, E2.2.1, by simp only; omega, fun D' z => by cases z; exact ⟨f5, by omega, L2, E2.2.2.2⟩⟩
        exact e_Lr_read_39 hl _ _ _ _ _ ⟨fun _ => ⟨fun w => absurd w one0, fun _ => fin⟩, fun _ => ⟨fun _ => ⟨fun w => absurd w one0, fun _ => fin⟩, fun w => absurd w one0⟩⟩
theorem lr_read (hl : G.1.stackTraces = false) (hx : G.n0 ≤ x) (O : Old G h tk) (S : RdS h x) (Tp : TpC h x b n u) : EvM G m_Lr_read [.ref (x + 17), .ref (x + 1)] h (lRd h x (lawL b u)) := by
  have u4 := Tp.u400
  have kd : (h.1 (x + 17)).1 = 2 := by rw [S.2.2.2.1.1]
  refine en_Lr_read h _ _ _ (e_Lr_read_0 hl h _ _ _ ⟨_, ⟨kd, S.2.2.2.1.2.1⟩, S.kd, _, r_start hl hx O S Tp, fun o1 h1 z => Or.inl ?_⟩)
  obtain ⟨z1, F1, R1⟩ := z
  have kd1 : (h1.1 (x + 17)).1 = 2 := by rw [F1.1]; exact kd
  refine ⟨z1, ⟨by omega, kd1⟩, e_Lr_read_13 hl _ _ _ ⟨⟨by omega, kd1⟩, ?_⟩⟩
  have F2 : Fs (fun a j => a = x + 17 ∧ 5 ≤ j) h1 (hset (hset h1 (x + 17) 5 (.int 0)) (x + 17) 6 (.int 0)) := (Fs.rf.set ⟨rfl, by omega⟩).set ⟨rfl, by omega⟩
  have f5 : (hset (hset h1 (x + 17) 5 (.int 0)) (x + 17) 6 (.int 0)).2.1 (x + 17) 5 = .int 0 := by rw [hs_ne (by omega)]; exact hs_eq
  have f6 : (hset (hset h1 (x + 17) 5 (.int 0)) (x + 17) 6 (.int 0)).2.1 (x + 17) 6 = .int 0 := hs_eq
  generalize hset (hset h1 (x + 17) 5 (.int 0)) (x + 17) 6 (.int 0) = g at *
  have E : LE G g x tk b u (sk b u 0) (opsD []) := ⟨(O.kX hx F1).keepF F2 (fun a j z => by omega), (S.kX F1).keep F2.1 (fun a j z => F2.2.2 a j (by omega)), R1.keep (fun a j h1 h2 => F2.2.2 a j (by omega)), f6, Nat.zero_le _, fun j o z => by simp [opsD] at z⟩
  have Fr : Fs (lX x) h g := (F1.mono (fun _ _ z => Or.inl z)).tr (F2.mono (fun a j z => Or.inr (Or.inl z)))
  refine e_Lr_read_18 hl _ _ _ ⟨_, E.r, E.k5, _, r_token hl E.2.1 E.2.2.1, fun o3 h3 y => Or.inl ⟨_, y.1, ?_⟩⟩
  rw [y.2]
  unfold lawL
  have q4 := E.le
  refine ⟨_, E.st (o := 0) (by decide), fun c => ?_, fun c => ?_⟩
  · rw [if_neg (fun z => c (by rw [z]))]
    exact l_lines hl hx u4 12 (D := []) rfl E (Nat.zero_le _) (fun i l z => by simp at z) Fr
  · have t : tok b u (sk b u 0) = 0 := E.inj (by decide) c
    rw [if_pos t]
    have fin : lRd h x (sk b u 0, some []) (.inl (some (.int (-1)))) g := ⟨rfl, Fr, E.2.1, by simp only; omega, fun D' z => by cases z; exact ⟨f5, by decide, fun i l z => by simp at z, E.2.2.2⟩⟩
    exact e_Lr_read_39 hl _ _ _ _ _ ⟨fun w => absurd w (by decide), fun _ => ⟨fun _ => ⟨fun w => absurd w one0, fun _ => fin⟩, fun w => absurd w one0⟩⟩
end CLL
