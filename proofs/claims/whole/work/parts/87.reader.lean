/-! ===== the class's reader ===== -/
/-- what the reader has read of a text: K tokens -/
def RdC (h : Hp) (x : Nat) (tk : Nat → Nat) (b : Nat → Nat) (u K : Nat) : Prop := K ≤ 400 ∧ pos b u K = u ∧ (∀ k, k < K → pos b u k < u) ∧ h.2.1 (x + 12) 3 = .int (nI K) ∧ ∀ k, k ≤ K → h.2.1 (x + 13) k = .ref (tk (tok b u (pos b u k))) ∧ h.2.1 (x + 14) k = .int (nI (vl b u (pos b u k))) ∧ h.2.1 (x + 15) k = .int (nI (pos b u k))
/-- the reader stands at a place -/
def RdA (h : Hp) (x : Nat) (tk : Nat → Nat) (b : Nat → Nat) (u q : Nat) : Prop := ∃ K k, RdC h x tk b u K ∧ k ≤ K ∧ pos b u k = q ∧ h.2.1 (x + 12) 4 = .int (nI k)
/-- what reading may change of the reader: all of it; a step of it -/
def rdX (x : Nat) : Nat → Nat → Prop := fun a j => (a = x + 12 ∧ 3 ≤ j) ∨ (x + 13 ≤ a ∧ a ≤ x + 15)
def rdQ (x : Nat) : Nat → Nat → Prop := fun a j => a = x + 12 ∧ (j = 4 ∨ j = 5)
section RDR
variable {G : Gx} {h h' : Hp} {tk : Nat → Nat} {x : Nat} {b : Nat → Nat} {n u q : Nat}
theorem r_isLetter (hl : G.1.stackTraces = false) {k : Nat} (hk : k < 256) : EvI G m_Re_isLetter [.int (nI k)] h (if isLe k = true then 1 else 0) := by
  refine en_Re_isLetter h _ _ (e_Re_isLetter_0 hl h _ _ ⟨fun c => ⟨?_, rfl⟩, fun c => ⟨fun d => ⟨?_, rfl⟩, fun d => ⟨?_, rfl⟩⟩⟩)
  · have := (nI_ltI (b := 97) (by omega) (by decide)).mp c
    rw [if_neg (fun z => by have := of_decide_eq_true z; omega)]
  · have := (nI_ltI (a := 122) (by decide) (by omega)).mp d
    rw [if_neg (fun z => by have := of_decide_eq_true z; omega)]
  · have c' : ¬ k < 97 := fun z => c (nI_lt (b := 97) z (by decide))
    have d' : ¬ 122 < k := fun z => d (nI_lt (a := 122) z (by omega))
    rw [if_pos (show isLe k = true from decide_eq_true (by omega))]
theorem r_isDigit (hl : G.1.stackTraces = false) {k : Nat} (hk : k < 256) : EvI G m_Re_isDigit [.int (nI k)] h (if isDi k = true then 1 else 0) := by
  refine en_Re_isDigit h _ _ (e_Re_isDigit_0 hl h _ _ ⟨fun c => ⟨?_, rfl⟩, fun c => ⟨fun d => ⟨?_, rfl⟩, fun d => ⟨?_, rfl⟩⟩⟩)
  · have := (nI_ltI (b := 48) (by omega) (by decide)).mp c
    rw [if_neg (fun z => by have := of_decide_eq_true z; omega)]
  · have := (nI_ltI (a := 57) (by decide) (by omega)).mp d
    rw [if_neg (fun z => by have := of_decide_eq_true z; omega)]
  · have c' : ¬ k < 48 := fun z => c (nI_lt (b := 48) z (by decide))
    have d' : ¬ 57 < k := fun z => d (nI_lt (a := 57) z (by omega))
    rw [if_pos (show isDi k = true from decide_eq_true (by omega))]
theorem r_end (hl : G.1.stackTraces = false) (Tp : TpC h x b n u) {i : Nat} (hi : i < u) : EvI G m_Re_endOfRun [.ref (x + 1), .int (nI i)] h (nI (en b u i)) := by
  have u4 := Tp.u400
  have bb : ∀ j, j < u → b j < 256 := fun j hj => (Tp.2.2.2.2.2.2 j (by omega)).1
  refine en_Re_endOfRun h _ _ _ (e_Re_endOfRun_0 hl h _ _ _ ⟨Tp.kd, _, t_at hl Tp hi, _, r_isLetter hl (bb i hi), fun c => ⟨_, r_isDigit hl (bb i hi), fun d => ⟨?_, rfl⟩, fun d => ?_⟩, fun c => ?_⟩)
  · unfold en; rw [if_neg (ite0 c), if_neg (ite0 d), nI_1]
  · have e : en b u i = rn isDi b u (i + 1) := by unfold en; rw [if_neg (ite0 c), if_pos (ite1 d), rn_s hi (ite1 d)]
    rw [e, nI_1]
    suffices hh : ∀ e j, j + e = u → Ev G m_Re_endOfRun 49 [.ref (x + 1), un, un, .int (nI j)] [] h 0 0 (fun o h' => o = .inl (some (.int (nI (rn isDi b u j)))) ∧ h' = h) from hh (u - (i + 1)) (i + 1) (by omega)
    intro e
    induction e with
    | zero => intro j hj; exact e_Re_endOfRun_49 hl h _ _ _ ⟨_, Tp.f2, fun _ => ⟨by rw [rn_n (by omega)], rfl⟩, fun z => absurd (nI_le (by omega) (by omega)) z⟩
    | succ e ih =>
      intro j hj
      refine e_Re_endOfRun_49 hl h _ _ _ ⟨_, Tp.f2, fun z => absurd z (nI_ge (by omega) (by omega)), fun _ => ⟨Tp.kd, _, t_at hl Tp (by omega), _, r_isDigit hl (bb j (by omega)), fun z => ⟨by rw [rn_n (fun y => ite0 z y.2)], rfl⟩, fun z => ?_⟩⟩
      rw [nI_1, rn_s (by omega) (ite1 z)]; exact ih (j + 1) (by omega)
  · have e : en b u i = rn isLe b u (i + 1) := by unfold en; rw [if_pos (ite1 c), rn_s hi (ite1 c)]
    rw [e, nI_1]
    suffices hh : ∀ e j, j + e = u → Ev G m_Re_endOfRun 17 [.ref (x + 1), un, un, .int (nI j)] [] h 0 0 (fun o h' => o = .inl (some (.int (nI (rn isLe b u j)))) ∧ h' = h) from hh (u - (i + 1)) (i + 1) (by omega)
    intro e
    induction e with
    | zero => intro j hj; exact e_Re_endOfRun_17 hl h _ _ _ ⟨_, Tp.f2, fun _ => ⟨by rw [rn_n (by omega)], rfl⟩, fun z => absurd (nI_le (by omega) (by omega)) z⟩
    | succ e ih =>
      intro j hj
      refine e_Re_endOfRun_17 hl h _ _ _ ⟨_, Tp.f2, fun z => absurd z (nI_ge (by omega) (by omega)), fun _ => ⟨Tp.kd, _, t_at hl Tp (by omega), _, r_isLetter hl (bb j (by omega)), fun z => ⟨by rw [rn_n (fun y => ite0 z y.2)], rfl⟩, fun z => ?_⟩⟩
      rw [nI_1, rn_s (by omega) (ite1 z)]; exact ih (j + 1) (by omega)
theorem r_number (hl : G.1.stackTraces = false) (Tp : TpC h x b n u) {fr to : Nat} (h1 : fr ≤ to) (h2 : to ≤ u) (hd : ∀ j, fr ≤ j → j < to → isDi (b j) = true) : EvI G m_Re_numberOf [.ref (x + 1), .int (nI fr), .int (nI to)] h (nI (nv b fr to)) := by
  have u4 := Tp.u400
  unfold nv
  refine en_Re_numberOf h _ _ _ _ (e_Re_numberOf_0 hl h _ _ _ _ ⟨fun c => ?_, fun c => ⟨?_, rfl⟩⟩)
  · rw [pk_sub h1] at c
    have c' := (nI_leI (b := 3) (by omega) (by decide)).mp c
    rw [if_neg (by omega)]
    suffices hh : ∀ e j v, j + e = to → fr ≤ j → Ev G m_Re_numberOf 16 [.ref (x + 1), un, .int (nI to), .int (nI v), .int (nI j)] [] h 0 0 (fun o h' => o = .inl (some (.int (nI (nvG b e j v)))) ∧ h' = h) from hh (to - fr) fr 0 (by omega) (Nat.le_refl _)
    intro e
    induction e with
    | zero => intro j v hj _; exact e_Re_numberOf_16 hl h _ _ _ _ _ ⟨fun _ => ⟨rfl, rfl⟩, fun z => absurd (nI_le (by omega) (by omega)) z⟩
    | succ e ih =>
      intro j v hj hf
      have dj := of_decide_eq_true (hd j hf (by omega))
      refine e_Re_numberOf_16 hl h _ _ _ _ _ ⟨fun z => absurd z (nI_ge (by omega) (by omega)), fun _ => ⟨Tp.kd, _, t_at hl Tp (by omega), ?_⟩⟩
      rw [nI_1, show (10 : Int32) = nI 10 from rfl, pk_mul, nI_add, show (48 : Int32) = nI 48 from rfl, pk_sub (by omega), show v * 10 + b j - 48 = 10 * v + (b j - 48) by omega]
      exact ih (j + 1) _ (by omega) (by omega)
  · rw [pk_sub h1] at c
    rw [if_pos (by
      rcases Nat.lt_or_ge 3 (to - fr) with z | z
      · exact z
      · exact absurd (nI_le (b := 3) z (by decide)) c)]; rfl
theorem RdS.kd (S : RdS h x) : (h.1 (x + 12)).1 = 5 := by rw [S.1.1]
theorem RdS.r0 (S : RdS h x) : fR h 5 (x + 12) 0 (x + 13) := ⟨S.kd, S.1.2.1⟩
theorem RdS.r1 (S : RdS h x) : fR h 5 (x + 12) 1 (x + 14) := ⟨S.kd, S.1.2.2.1⟩
theorem RdS.r2 (S : RdS h x) : fR h 5 (x + 12) 2 (x + 15) := ⟨S.kd, S.1.2.2.2⟩
theorem RdS.keep (S : RdS h x) (e1 : h'.1 = h.1) (e2 : ∀ a j, (a = x + 12 ∧ j ≤ 2) ∨ a = x + 16 ∨ (a = x + 17 ∧ j ≤ 4) ∨ (x + 18 ≤ a ∧ a ≤ x + 20) → h'.2.1 a j = h.2.1 a j) : RdS h' x := by
  obtain ⟨⟨c1, c2, c3, c4⟩, c5, ⟨c8, c9⟩, ⟨d1, d2, d3, d4, d5, d6⟩, d7, d11⟩ := S
  exact ⟨⟨by rw [e1]; exact c1, by rw [e2 _ _ (by omega)]; exact c2, by rw [e2 _ _ (by omega)]; exact c3, by rw [e2 _ _ (by omega)]; exact c4⟩, by rw [e1]; exact c5, ⟨by rw [e1]; exact c8, by rw [e2 _ _ (by omega)]; exact c9⟩, ⟨by rw [e1]; exact d1, by rw [e2 _ _ (by omega)]; exact d2, by rw [e2 _ _ (by omega)]; exact d3, by rw [e2 _ _ (by omega)]; exact d4, by rw [e2 _ _ (by omega)]; exact d5, by rw [e2 _ _ (by omega)]; exact d6⟩, by rw [e1]; exact d7, fun a j h1 h2 h3 => by rw [e2 a j (by omega)]; exact d11 a j h1 h2 h3⟩
theorem RdS.kX (S : RdS h x) (F : Fs (rdX x) h h') : RdS h' x := S.keep F.1 (fun a j z => F.2.2 a j (by unfold rdX; omega))
theorem TpC.kX (T : TpC h x b n u) (F : Fs (rdX x) h h') : TpC h' x b n u := T.keep F (fun a j z => by unfold rdX; omega)
theorem Old.kX (O : Old G h tk) (hx : G.n0 ≤ x) (F : Fs (rdX x) h h') : Old G h' tk := O.keepF F (fun a j z => by unfold rdX at z; omega)
/-- one token is kept -/
theorem r_keep (hl : G.1.stackTraces = false) (hx : G.n0 ≤ x) (O : Old G h tk) (S : RdS h x) (Tp : TpC h x b n u) {i k : Nat} (hi : i < u) (hk : k < 400) (h3 : h.2.1 (x + 12) 3 = .int (nI k)) : EvM G m_Re_keep [.ref (x + 12), .ref (x + 1), .int (nI i), .int (nI (en b u i))] h (fun o h' => o = .inl none ∧ Fs (rdX x) h h' ∧ h'.2.1 (x + 12) 3 = .int (nI (k + 1)) ∧ h'.2.1 (x + 12) 4 = h.2.1 (x + 12) 4 ∧ h'.2.1 (x + 13) k = .ref (tk (tok b u i)) ∧ h'.2.1 (x + 14) k = .int (nI (vl b u i)) ∧ h'.2.1 (x + 15) k = .int (nI i) ∧ ∀ a j, x + 13 ≤ a → a ≤ x + 15 → j ≠ k → h'.2.1 a j = h.2.1 a j) := by
  have u4 := Tp.u400
  have bi : b i < 256 := (Tp.2.2.2.2.2.2 i (by omega)).1
  have eg := en_gt (b := b) hi
  have el := en_le (b := b) hi
  have s13 : h.1 (x + 13) = (105, 401) := S.2.1.1
  have s14 : h.1 (x + 14) = (101, 401) := S.2.1.2.1
  have s15 : h.1 (x + 15) = (101, 401) := S.2.1.2.2
  have aw : aW G h 105 (x + 13) (nI k) := aW_of (by omega) s13 (by omega) (by decide)
  have kK : ∀ {t}, t < 35 → rK G h 201 (tk t) := fun ht => by unfold rK; rw [if_neg (by decide)]; exact (O.1 _ ht).2.1
  /- behind the token -/
  have rest : ∀ (t : Nat) (d : Int32), t = tok b u i → (d = 0 ↔ isDi (b i) = false) → Ev G m_Re_keep 47 [.ref (x + 12), .ref (x + 1), .int (nI i), .int (nI (en b u i)), .int d] [] (hset h (x + 13) k (.ref (tk t))) 0 0 (fun o h' => o = .inl none ∧ Fs (rdX x) h h' ∧ h'.2.1 (x + 12) 3 = .int (nI (k + 1)) ∧ h'.2.1 (x + 12) 4 = h.2.1 (x + 12) 4 ∧ h'.2.1 (x + 13) k = .ref (tk (tok b u i)) ∧ h'.2.1 (x + 14) k = .int (nI (vl b u i)) ∧ h'.2.1 (x + 15) k = .int (nI i) ∧ ∀ a j, x + 13 ≤ a → a ≤ x + 15 → j ≠ k → h'.2.1 a j = h.2.1 a j) := fun t d et ed => by
    have F1 : Fs (rdX x) h (hset h (x + 13) k (.ref (tk t))) := Fs.rf.set (by unfold rdX; omega)
    have S1 := S.kX F1
    have T1 := Tp.kX F1
    have go : ∀ y, y = nI (vl b u i) → aW G (hset h (x + 13) k (.ref (tk t))) 101 (x + 14) (nI k) ∧ Ev G m_Re_keep 71 [.ref (x + 12), un, .int (nI i), un, un] [] (hset (hset h (x + 13) k (.ref (tk t))) (x + 14) (nI k).toNatClampNeg (.int y)) 0 0 (fun o h' => o = .inl none ∧ Fs (rdX x) h h' ∧ h'.2.1 (x + 12) 3 = .int (nI (k + 1)) ∧ h'.2.1 (x + 12) 4 = h.2.1 (x + 12) 4 ∧ h'.2.1 (x + 13) k = .ref (tk (tok b u i)) ∧ h'.2.1 (x + 14) k = .int (nI (vl b u i)) ∧ h'.2.1 (x + 15) k = .int (nI i) ∧ ∀ a j, x + 13 ≤ a → a ≤ x + 15 → j ≠ k → h'.2.1 a j = h.2.1 a j) := fun y ey => by
      refine ⟨aW_of (by omega) s14 (by omega) (by decide), ?_⟩
      rw [nI_clamp (by omega)]
      have F2 := F1.set (a := x + 14) (k := k) (v := .int y) (by unfold rdX; omega)
      have S2 := S.kX F2
      refine e_Re_keep_71 hl _ _ _ _ ⟨_, S2.r2, nI k, ⟨S2.kd, by rw [hs_ne (by omega), hs_ne (by omega)]; exact h3⟩, aW_of (by omega) s15 (by omega) (by decide), ?_⟩
      rw [nI_clamp (by omega)]
      have F3 := F2.set (a := x + 15) (k := k) (v := .int (nI i)) (by unfold rdX; omega)
      have S3 := S.kX F3
      refine e_Re_keep_81 hl _ _ _ ⟨nI k, ⟨S3.kd, by rw [hs_ne (by omega), hs_ne (by omega), hs_ne (by omega)]; exact h3⟩, ⟨by omega, S3.kd⟩, rfl, F3.set (by unfold rdX; omega), by rw [hs_eq, nI_1], ?_, ?_, ?_, ?_, fun a j h1 h2 h3 => ?_⟩
      · rw [hs_ne (by omega), hs_ne (by omega), hs_ne (by omega), hs_ne (by omega)]
      · rw [hs_ne (by omega), hs_ne (by omega), hs_ne (by omega), hs_eq, et]
      · rw [hs_ne (by omega), hs_ne (by omega), hs_eq, ey]
      · rw [hs_ne (by omega), hs_eq]
      · rw [hs_ne (by omega), hs_ne (by omega), hs_ne (by omega), hs_ne (by omega)]
    refine e_Re_keep_47 hl _ _ _ _ _ _ _ ⟨_, S1.r1, nI k, ⟨S1.kd, by rw [hs_ne (by omega)]; exact h3⟩, fun c => go _ ?_, fun c => ?_⟩
    · unfold vl; rw [if_neg (fun z => by rw [ed.mp c] at z; exact absurd z.2 (by decide))]; rfl
    · have di : isDi (b i) = true := by
        cases z : isDi (b i) with
        | true => rfl
        | false => exact absurd (ed.mpr z) c
      have ee : en b u i = rn isDi b u i := by
        unfold en
        rw [if_neg (fun z => by have z1 := of_decide_eq_true z; have z2 := of_decide_eq_true di; omega), if_pos di]
      refine ⟨_, r_number hl T1 (Nat.le_of_lt eg) el (fun j a c => by rw [ee] at c; exact rn_in a c), go _ ?_⟩
      unfold vl; rw [if_pos ⟨hi, di⟩, ee]
  refine en_Re_keep h _ _ _ _ _ (e_Re_keep_0 hl h _ _ _ _ _ ⟨nI k, ⟨S.kd, h3⟩, fun _ => ⟨Tp.kd, _, t_at hl Tp hi, _, r_isDigit hl bi, _, S.r0, nI k, ⟨S.kd, h3⟩, fun c => ⟨_, t_spelt hl O Tp eg el, fun o1 h1 z => Or.inl ⟨_, z.1, ?_⟩⟩, fun c => ⟨_, (O.1 1 (by decide)).1, kK (by decide), aw, ?_⟩⟩, fun c => absurd (nI_lt (b := 400) hk (by decide)) c⟩)
  · rw [z.2, nI_clamp (by omega)]
    have et : spG b i (en b u i) 35 0 = tok b u i := by unfold tok; rw [if_pos hi, if_neg (ite0 c)]
    rw [et]
    refine ⟨kK tok_lt, aw, rest _ _ rfl ⟨fun _ => ?_, fun _ => c⟩⟩
    have := ite0 c
    cases y : isDi (b i) with
    | true => exact absurd y this
    | false => rfl
  · rw [nI_clamp (by omega)]
    exact rest 1 _ (tok_1.mpr ⟨hi, ite1 c⟩).symm ⟨fun y => absurd y c, fun y => by rw [ite1 c] at y; cases y⟩
theorem r_start (hl : G.1.stackTraces = false) (hx : G.n0 ≤ x) (O : Old G h tk) (S : RdS h x) (Tp : TpC h x b n u) : EvM G m_Re_start [.ref (x + 12), .ref (x + 1)] h (fun o h' => o = .inl none ∧ Fs (rdX x) h h' ∧ RdA h' x tk b u (sk b u 0)) := by
  have u4 := Tp.u400
  refine en_Re_start h _ _ _ (e_Re_start_0 hl h _ _ _ ⟨⟨by omega, S.kd⟩, e_Re_start_5 hl _ _ _ _ ⟨⟨by omega, S.kd⟩, e_Re_start_10 hl _ _ _ _ ?_⟩⟩)
  suffices hh : ∀ e i k c (g : Hp), i + e = u → c ≤ i → k ≤ i → sk b u i = pos b u k → (∀ j, j < k → pos b u j < u) → Fs (rdX x) h g → g.2.1 (x + 12) 3 = .int (nI k) → g.2.1 (x + 12) 4 = .int 0 → (∀ j, j < k → g.2.1 (x + 13) j = .ref (tk (tok b u (pos b u j))) ∧ g.2.1 (x + 14) j = .int (nI (vl b u (pos b u j))) ∧ g.2.1 (x + 15) j = .int (nI (pos b u j))) → Ev G m_Re_start 14 [.ref (x + 12), .ref (x + 1), .int (nI i), .int (nI c), un] [] g 0 0 (fun o h' => o = .inl none ∧ Fs (rdX x) h h' ∧ RdA h' x tk b u (sk b u 0)) from hh u 0 0 0 _ (by omega) (Nat.le_refl _) (Nat.le_refl _) rfl (fun j hj => by omega) ((Fs.rf.set (by unfold rdX; omega)).set (by unfold rdX; omega)) (by rw [hs_ne (by omega), hs_eq]; rfl) hs_eq (fun j hj => by omega)
  intro e
  induction e using Nat.strongRecOn with
  | ind e ih =>
    intro i k c g hi hc hk ps pl F f3 f4 cont
    have Sg := S.kX F
    have Tg := Tp.kX F
    have Og := O.kX hx F
    /- all is read -/
    have fin : ∀ (iu : i = u) (y : Nat), y = tk 0 → rK G g 201 y ∧ aW G g 105 (x + 13) (nI k) ∧ Ev G m_Re_start 75 [.ref (x + 12), .ref (x + 1), un, un, un] [] (hset g (x + 13) (nI k).toNatClampNeg (.ref y)) 0 0 (fun o h' => o = .inl none ∧ Fs (rdX x) h h' ∧ RdA h' x tk b u (sk b u 0)) := fun iu y ey => by
      have pu : pos b u k = u := by rw [← ps, iu]; exact rn_n (by omega)
      refine ⟨by unfold rK; rw [if_neg (by decide), ey]; exact (Og.1 0 (by decide)).2.1, aW_of (by omega) Sg.2.1.1 (by omega) (by decide), ?_⟩
      rw [nI_clamp (by omega)]
      have F1 := F.set (a := x + 13) (k := k) (v := .ref y) (by unfold rdX; omega)
      have S1 := S.kX F1
      refine e_Re_start_75 hl _ _ _ _ ⟨_, S1.r1, nI k, ⟨S1.kd, by rw [hs_ne (by omega)]; exact f3⟩, aW_of (by omega) S1.2.1.2.1 (by omega) (by decide), ?_⟩
      rw [nI_clamp (by omega)]
      have F2 := F1.set (a := x + 14) (k := k) (v := .int 0) (by unfold rdX; omega)
      have S2 := S.kX F2
      have T2 := Tp.kX F2
      refine e_Re_start_85 hl _ _ _ _ ⟨_, S2.r2, nI k, ⟨S2.kd, by rw [hs_ne (by omega), hs_ne (by omega)]; exact f3⟩, _, T2.f2, aW_of (by omega) S2.2.1.2.2 (by omega) (by decide), ?_⟩
      rw [nI_clamp (by omega)]
      refine ⟨rfl, F2.set (by unfold rdX; omega), k, 0, ⟨by omega, pu, pl, by rw [hs_ne (by omega), hs_ne (by omega), hs_ne (by omega)]; exact f3, fun j hj => ?_⟩, Nat.zero_le _, rfl, by rw [hs_ne (by omega), hs_ne (by omega), hs_ne (by omega)]; exact f4⟩
      by_cases z : j = k
      · subst z
        rw [pu, tok_u (by omega), vl_u (by omega)]
        exact ⟨by rw [hs_ne (by omega), hs_ne (by omega), hs_eq, ey], by rw [hs_ne (by omega), hs_eq]; rfl, hs_eq⟩
      · obtain ⟨c1, c2, c3⟩ := cont j (by omega)
        exact ⟨by rw [hs_ne (by omega), hs_ne (by omega), hs_ne (by omega)]; exact c1, by rw [hs_ne (by omega), hs_ne (by omega), hs_ne (by omega)]; exact c2, by rw [hs_ne (by omega), hs_ne (by omega), hs_ne (by omega)]; exact c3⟩
    refine e_Re_start_14 hl g _ _ _ _ _ ⟨fun z => ?_, fun z => ⟨_, Tg.f2, fun y => ?_, fun y => ?_⟩⟩
    · have := (nI_leI (a := 400) (by decide) (by omega)).mp z
      exact ⟨_, Sg.r0, nI k, ⟨Sg.kd, f3⟩, _, (Og.1 0 (by decide)).1, fin (by omega) _ rfl⟩
    · have := (nI_leI (by omega) (by omega)).mp y
      exact ⟨_, Sg.r0, nI k, ⟨Sg.kd, f3⟩, _, (Og.1 0 (by decide)).1, fin (by omega) _ rfl⟩
    · have iu : i < u := by
        rcases Nat.lt_or_ge i u with w | w
        · exact w
        · exact absurd (nI_le w (by omega)) y
      have bi : b i < 256 := (Tp.2.2.2.2.2.2 i (by omega)).1
      have eg := en_gt (b := b) iu
      have el := en_le (b := b) iu
      refine ⟨_, r_end hl Tg iu, Tg.kd, _, t_at hl Tg iu, fun w => ?_, fun w => ?_⟩
      · have w' : b i = 32 := (nI_eq (by omega) (by decide)).mp (show nI (b i) = nI 32 from w)
        have e1 : en b u i = i + 1 := by
          unfold en
          rw [if_neg (by unfold isLe; rw [w']; decide), if_neg (by unfold isDi; rw [w']; decide)]
        have e2 : sk b u i = sk b u (i + 1) := rn_s iu (by unfold isSp; rw [w']; decide)
        rw [nI_1, e1]
        exact ih (e - 1) (by omega) (i + 1) k (c + 1) g (by omega) (by omega) (by omega) (by rw [← e2]; exact ps) pl F f3 f4 cont
      · have w' : ¬ b i = 32 := fun z => w (by rw [z]; rfl)
        have pi : pos b u k = i := by rw [← ps]; exact rn_n (fun z => w' (of_decide_eq_true z.2))
        refine ⟨Sg.kd, _, r_keep hl hx Og Sg Tg iu (by omega) f3, fun o1 h1 z1 => Or.inl ?_⟩
        obtain ⟨a1, a2, a3, a4, a5, a6, a7, a8⟩ := z1
        refine ⟨a1, ?_⟩
        rw [nI_1]
        refine ih (u - en b u i) (by omega) (en b u i) (k + 1) (c + 1) h1 (by omega) (by omega) (by omega) (by show _ = nx b u (pos b u k); rw [pi]; rfl) (fun j hj => ?_) (F.tr a2) a3 (by rw [a4]; exact f4) (fun j hj => ?_)
        · by_cases y : j = k
          · subst y; rw [pi]; exact iu
          · exact pl j (by omega)
        · by_cases y : j = k
          · subst y; rw [pi]; exact ⟨a5, a6, a7⟩
          · obtain ⟨c1, c2, c3⟩ := cont j (by omega)
            exact ⟨by rw [a8 _ _ (by omega) (by omega) y]; exact c1, by rw [a8 _ _ (by omega) (by omega) y]; exact c2, by rw [a8 _ _ (by omega) (by omega) y]; exact c3⟩
/-! what it answers where it stands -/
theorem RdC.lt {K k : Nat} (R : RdC h x tk b u K) (hk : k ≤ K) : (k < K ↔ pos b u k < u) := ⟨fun z => R.2.2.1 k z, fun z => by
  rcases Nat.lt_or_ge k K with y | y
  · exact y
  · have : k = K := by omega
    rw [this, R.2.1] at z; omega⟩
theorem RdA.le (R : RdA h x tk b u q) : q ≤ u := by
  obtain ⟨K, k, R, hk, e, -⟩ := R
  rcases Nat.lt_or_ge k K with y | y
  · have := R.2.2.1 k y; omega
  · have : k = K := by omega
    rw [this, R.2.1] at e; omega
theorem r_token (hl : G.1.stackTraces = false) (S : RdS h x) (R : RdA h x tk b u q) : EvM G m_Re_token [.ref (x + 12)] h (fun o h' => o = .inl (some (.ref (tk (tok b u q)))) ∧ h' = h) := by
  obtain ⟨K, k, R, hk, e, f4⟩ := R
  have k4 := R.1
  refine en_Re_token h _ _ (e_Re_token_0 hl h _ _ ⟨_, ⟨S.kd, f4⟩, fun z => absurd z (nI_pos (by omega)), fun _ => ⟨_, ⟨S.kd, f4⟩, _, ⟨S.kd, R.2.2.2.1⟩, fun z => absurd z (nI_nlt (by omega) (by omega)), fun _ => ⟨_, S.r0, _, ⟨S.kd, f4⟩, _, aR_of S.2.1.1 (by omega) (by decide) (R.2.2.2.2 k hk).1, by rw [e], rfl⟩⟩⟩)
theorem r_value (hl : G.1.stackTraces = false) (S : RdS h x) (R : RdA h x tk b u q) : EvI G m_Re_value [.ref (x + 12)] h (nI (vl b u q)) := by
  obtain ⟨K, k, R, hk, e, f4⟩ := R
  have k4 := R.1
  refine en_Re_value h _ _ (e_Re_value_0 hl h _ _ ⟨_, ⟨S.kd, f4⟩, fun z => absurd z (nI_pos (by omega)), fun _ => ⟨_, ⟨S.kd, f4⟩, _, ⟨S.kd, R.2.2.2.1⟩, fun z => absurd z (nI_nlt (by omega) (by omega)), fun _ => ⟨_, S.r1, _, ⟨S.kd, f4⟩, _, aI_of S.2.1.2.1 (by omega) (by decide) (R.2.2.2.2 k hk).2.1, by rw [e], rfl⟩⟩⟩)
theorem r_begin (hl : G.1.stackTraces = false) (S : RdS h x) (R : RdA h x tk b u q) : EvI G m_Re_begin [.ref (x + 12)] h (nI q) := by
  obtain ⟨K, k, R, hk, e, f4⟩ := R
  have k4 := R.1
  refine en_Re_begin h _ _ (e_Re_begin_0 hl h _ _ ⟨_, ⟨S.kd, f4⟩, fun z => absurd z (nI_pos (by omega)), fun _ => ⟨_, ⟨S.kd, f4⟩, _, ⟨S.kd, R.2.2.2.1⟩, fun z => absurd z (nI_nlt (by omega) (by omega)), fun _ => ⟨_, S.r2, _, ⟨S.kd, f4⟩, _, aI_of S.2.1.2.2 (by omega) (by decide) (R.2.2.2.2 k hk).2.2, by rw [e], rfl⟩⟩⟩)
theorem RdC.keep {K : Nat} (R : RdC h x tk b u K) (F : Fs (rdQ x) h h') : RdC h' x tk b u K := by
  obtain ⟨r1, r2, r3, r4, r5⟩ := R
  exact ⟨r1, r2, r3, by rw [F.2.2 _ _ (by unfold rdQ; omega)]; exact r4, fun k hk => by
    rw [F.2.2 _ _ (by unfold rdQ; omega), F.2.2 _ _ (by unfold rdQ; omega), F.2.2 _ _ (by unfold rdQ; omega)]; exact r5 k hk⟩
/-- a step on -/
def RdN (h : Hp) (x : Nat) (tk : Nat → Nat) (b : Nat → Nat) (u q : Nat) : Prop := RdA h x tk b u q
theorem r_take (hl : G.1.stackTraces = false) (hx : G.n0 ≤ x) (O : Old G h tk) (S : RdS h x) (R : RdA h x tk b u q) {o : Nat} (ho : o < 35) (h0 : o ≠ 0) : EvM G m_Re_take [.ref (x + 12), .ref (tk o)] h (fun r h' => r = .inl (some (.int (if tok b u q = o then 1 else 0))) ∧ Fs (rdQ x) h h' ∧ RdA h' x tk b u (if tok b u q = o then nx b u q else q)) := by
  obtain ⟨K, k, R, hk, e, f4⟩ := R
  have k4 := R.1
  have lt := R.lt hk
  rw [e] at lt
  refine en_Re_take h _ _ _ (e_Re_take_0 hl h _ _ _ ⟨_, ⟨S.kd, f4⟩, _, ⟨S.kd, R.2.2.2.1⟩, fun z => ?_, fun z => ⟨_, S.r0, _, ⟨S.kd, f4⟩, _, aR_of S.2.1.1 (by omega) (by decide) (R.2.2.2.2 k hk).1, fun y => ⟨_, ⟨S.kd, f4⟩, ⟨by omega, S.kd⟩, e_Re_take_36 hl _ _ ?_⟩, fun y => ?_⟩⟩)
  · have z' := (nI_leI (by omega) (by omega)).mp z
    have : ¬ tok b u q = o := fun w => h0 (by rw [← w]; exact tok_u (by omega))
    rw [if_neg this, if_neg this]; exact ⟨rfl, Fs.rf, K, k, R, hk, e, f4⟩
  · have z' : k < K := by
      rcases Nat.lt_or_ge k K with w | w
      · exact w
      · exact absurd (nI_le w (by omega)) z
    have y' : tok b u q = o := by rw [← e]; exact O.2.1 _ _ tok_lt ho y
    rw [if_pos y', if_pos y', nI_1]
    have F : Fs (rdQ x) h (hset h (x + 12) 4 (.int (nI (k + 1)))) := Fs.rf.set ⟨rfl, Or.inl rfl⟩
    exact ⟨rfl, F, K, k + 1, R.keep F, by omega, by show nx b u (pos b u k) = _; rw [e], hs_eq⟩
  · have y' : ¬ tok b u q = o := fun w => y (by rw [e, w])
    rw [if_neg y', if_neg y']; exact ⟨rfl, Fs.rf, K, k, R, hk, e, f4⟩
/-- a number within bounds stands there -/
abbrev isN (b : Nat → Nat) (u lo hi q : Nat) : Prop := tok b u q = 1 ∧ lo ≤ vl b u q ∧ vl b u q ≤ hi
theorem r_takeNumber (hl : G.1.stackTraces = false) (hx : G.n0 ≤ x) (O : Old G h tk) (S : RdS h x) (R : RdA h x tk b u q) {lo hi : Nat} (h1 : lo ≤ 1000) (h2 : hi ≤ 1000) (c : Prop) [Decidable c] (hc : c ↔ isN b u lo hi q) : EvM G m_Re_takeNumber [.ref (x + 12), .int (nI lo), .int (nI hi)] h (fun r h' => r = .inl (some (.int (if c then 1 else 0))) ∧ Fs (rdQ x) h h' ∧ RdA h' x tk b u (if c then nx b u q else q) ∧ (c → h'.2.1 (x + 12) 5 = .int (nI (vl b u q)))) := by
  obtain ⟨K, k, R, hk, e, f4⟩ := R
  have k4 := R.1
  have lt := R.lt hk
  rw [e] at lt
  have vb := vl_b (b := b) (u := u) (i := q)
  have no : ¬ c → (fun r h' => r = .inl (some (.int (if c then 1 else 0))) ∧ Fs (rdQ x) h h' ∧ RdA h' x tk b u (if c then nx b u q else q) ∧ (c → h'.2.1 (x + 12) 5 = .int (nI (vl b u q)))) (Sum.inl (some (Value.int 0)) : Res) h := fun w => by
    simp only
    rw [if_neg w, if_neg w]
    exact ⟨rfl, Fs.rf, ⟨K, k, R, hk, e, f4⟩, fun z => absurd z w⟩
  have av : aI h 101 (x + 14) (nI k) (nI (vl b u q)) := by rw [← e]; exact aI_of S.2.1.2.1 (by omega) (by decide) (R.2.2.2.2 k hk).2.1
  refine en_Re_takeNumber h _ _ _ _ (e_Re_takeNumber_0 hl h _ _ _ _ ⟨_, ⟨S.kd, f4⟩, _, ⟨S.kd, R.2.2.2.1⟩, fun z => no (fun w => ?_), fun z => ⟨_, S.r0, _, ⟨S.kd, f4⟩, _, aR_of S.2.1.1 (by omega) (by decide) (R.2.2.2.2 k hk).1, _, (O.1 1 (by decide)).1, fun y => no (fun w => ?_), fun y => ⟨_, S.r1, _, ⟨S.kd, f4⟩, _, av, fun w => no (fun v => ?_), fun w => ⟨_, S.r1, _, ⟨S.kd, f4⟩, _, av, fun v => ⟨_, S.r1, _, ⟨S.kd, f4⟩, _, av, ⟨by omega, S.kd⟩, ?_⟩, fun v => no (fun s => ?_)⟩⟩⟩⟩)
  · have z' := (nI_leI (by omega) (by omega)).mp z
    have := (hc.mp w).1
    rw [tok_u (by omega)] at this; omega
  · exact y (by rw [e, (hc.mp w).1])
  · have := (nI_ltI (by omega) (by omega)).mp w
    have := (hc.mp v).2.1; omega
  · have y' : tok b u q = 1 := by rw [← e]; exact O.2.1 _ _ tok_lt (by decide) y
    have w' : ¬ vl b u q < lo := fun s => w (nI_lt s (by omega))
    have v' := (nI_leI (by omega) (by omega)).mp v
    have cc : c := hc.mpr ⟨y', by omega, v'⟩
    have z' : k < K := by
      rcases Nat.lt_or_ge k K with w | w
      · exact w
      · exact absurd (nI_le w (by omega)) z
    have F1 : Fs (rdQ x) h (hset h (x + 12) 5 (.int (nI (vl b u q)))) := Fs.rf.set ⟨rfl, Or.inr rfl⟩
    refine e_Re_takeNumber_67 hl _ _ _ ⟨nI k, ⟨S.kd, by rw [hs_ne (by omega)]; exact f4⟩, ⟨by omega, S.kd⟩, e_Re_takeNumber_77 hl _ _ ?_⟩
    rw [if_pos cc, if_pos cc, nI_1]
    have F2 := F1.set (a := x + 12) (k := 4) (v := .int (nI (k + 1))) ⟨rfl, Or.inl rfl⟩
    exact ⟨rfl, F2, ⟨K, k + 1, R.keep F2, by omega, by show nx b u (pos b u k) = _; rw [e], hs_eq⟩, fun _ => by rw [hs_ne (by omega), hs_eq]⟩
  · have := (hc.mp s).2.2
    exact v (nI_le this (by omega))
theorem r_step (hl : G.1.stackTraces = false) (hx : G.n0 ≤ x) (S : RdS h x) (R : RdA h x tk b u q) (hq : q < u) : EvM G m_Re_step [.ref (x + 12)] h (fun r h' => r = .inl none ∧ Fs (rdQ x) h h' ∧ RdA h' x tk b u (nx b u q)) := by
  obtain ⟨K, k, R, hk, e, f4⟩ := R
  have k4 := R.1
  have lt := R.lt hk
  rw [e] at lt
  have z' := lt.mpr hq
  refine en_Re_step h _ _ (e_Re_step_0 hl h _ _ ⟨_, ⟨S.kd, f4⟩, _, ⟨S.kd, R.2.2.2.1⟩, fun z => absurd z (nI_ge z' (by omega)), fun z => ⟨_, ⟨S.kd, f4⟩, ⟨by omega, S.kd⟩, ?_⟩⟩)
  rw [nI_1]
  have F : Fs (rdQ x) h (hset h (x + 12) 4 (.int (nI (k + 1)))) := Fs.rf.set ⟨rfl, Or.inl rfl⟩
  exact ⟨rfl, F, K, k + 1, R.keep F, by omega, by show nx b u (pos b u k) = _; rw [e], hs_eq⟩
end RDR
