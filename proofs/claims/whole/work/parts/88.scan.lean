/-! ===== the reference's scanner ===== -/
/-- the reference's texts, by the numbers of the words -/
def lio (i : Nat) : Nat := match i with
  | 0 => 3 | 1 => 4 | 2 => 5 | 3 => 6 | 4 => 7 | 5 => 8 | 6 => 9 | 7 => 10 | 8 => 11 | 9 => 12 | 10 => 13 | 11 => 14 | 12 => 15 | 13 => 16 | 14 => 17
  | 15 => 18 | 16 => 19 | 17 => 20 | 18 => 23 | 19 => 24 | 20 => 25 | 21 => 26 | 22 => 27 | 23 => 28 | 24 => 22 | _ => 21
def LitG (G : Gx) (h : Hp) : Prop := ∀ i, i < 26 → StrAt G h (G.lit i) (wt (lio i))
def mS (m : Nat) : Nat → Nat → Prop := fun a j => a = m ∧ (j = 10 ∨ j = 12)
theorem sx_eq {k c : Nat} (hk : k < 256) (hc : c < 128) : sx k = nI c ↔ k = c := by
  by_cases h : k < 128
  · rw [sx_lo h]; exact nI_eq (by omega) (by omega)
  · refine ⟨fun z => ?_, fun z => by omega⟩
    have := sx_all k hk (by omega)
    rw [z] at this; exact absurd this (nI_pos (by omega))
theorem wt_let : ∀ o, o < 29 → 3 ≤ o → 2 ≤ (wt o).length ∧ ∀ c, c ∈ wt o → isLe c = true := by decide +kernel
theorem wt_inj : ∀ o, o < 35 → ∀ q, q < 35 → 3 ≤ o → 3 ≤ q → wt o = wt q → o = q := by decide +kernel
section TOKS
variable {b : Nat → Nat} {u q : Nat}
theorem mtc_eq {w w' : List Nat} : ∀ {i}, w.length = w'.length → mtc b w i = true → mtc b w' i = true → w = w' := by
  induction w generalizing w' with
  | nil => intro i h _ _; cases w' with
    | nil => rfl
    | cons a w' => simp at h
  | cons a w ih => intro i h h1 h2; cases w' with
    | nil => simp at h
    | cons a' w' =>
      unfold mtc at h1 h2
      rw [Bool.and_eq_true] at h1 h2
      have e1 := of_decide_eq_true h1.1
      have e2 := of_decide_eq_true h2.1
      rw [ih (by simpa using h) h1.2 h2.2, ← e1, ← e2]
/-- a token is the word that is spelt there -/
theorem tok_sp {o : Nat} (ho : o < 35) (h3 : 3 ≤ o) (hq : q < u) (hd : ¬ isDi (b q) = true) : tok b u q = o ↔ (wt o).length = en b u q - q ∧ mtc b (wt o) q = true := by
  have e : tok b u q = spG b q (en b u q) 35 0 := by unfold tok; rw [if_pos hq, if_neg hd]
  rw [e]
  have ne := sp_ne (b := b) (en_gt (b := b) hq)
  rcases sp_sp (b := b) (fr := q) (to := en b u q) 35 0 (by omega) with ⟨a1, a2⟩ | ⟨a1, a2, a3, a4, a5⟩
  · refine ⟨fun z => by omega, fun z => absurd z (a2 o (Nat.zero_le _) (by omega))⟩
  · refine ⟨fun z => by rw [← z]; exact ⟨a3, a4⟩, fun z => ?_⟩
    have ew := mtc_eq (b := b) (i := q) (by rw [a3, z.1]) a4 z.2
    rcases ne with y | y
    · rw [y] at a3
      have := en_gt (b := b) hq
      have : (wt 2).length = 0 := rfl
      omega
    · exact wt_inj _ (by omega) _ ho y h3 ew
theorem tok_word {o : Nat} (ho : o < 29) (h3 : 3 ≤ o) : tok b u q = o ↔ (wt o).length = rn isLe b u q - q ∧ mtc b (wt o) q = true := by
  obtain ⟨w2, wl⟩ := wt_let o ho h3
  by_cases hq : q < u ∧ isLe (b q) = true
  · have hd : ¬ isDi (b q) = true := fun z => by
      have z1 := of_decide_eq_true z; have z2 := of_decide_eq_true hq.2; omega
    have e : en b u q = rn isLe b u q := by unfold en; rw [if_pos hq.2]
    rw [← e]; exact tok_sp (by omega) h3 hq.1 hd
  · rw [rn_n hq]
    refine ⟨fun z => ?_, fun z => by omega⟩
    exfalso
    by_cases hu : q < u
    · by_cases hd : isDi (b q) = true
      · rw [tok_1.mpr ⟨hu, hd⟩] at z; omega
      · have := ((tok_sp (by omega) h3 hu hd).mp z).2
        cases w : wt o with
        | nil => rw [w] at w2; simp at w2
        | cons c l =>
          rw [w] at this
          unfold mtc at this
          rw [Bool.and_eq_true] at this
          have e := of_decide_eq_true this.1
          exact hq ⟨hu, by rw [e]; exact wl c (by rw [w]; exact List.mem_cons_self)⟩
    · rw [tok_u hu] at z; omega
theorem wt_sign : ∀ o, o < 35 → 29 ≤ o → ∃ c, wt o = [c] ∧ c < 128 ∧ isLe c = false ∧ isDi c = false ∧ isSp c = false := by
  intro o h1 h2
  have : o = 29 ∨ o = 30 ∨ o = 31 ∨ o = 32 ∨ o = 33 ∨ o = 34 := by omega
  rcases this with rfl | rfl | rfl | rfl | rfl | rfl
  · exact ⟨59, rfl, by decide, by decide, by decide, by decide⟩
  · exact ⟨40, rfl, by decide, by decide, by decide, by decide⟩
  · exact ⟨41, rfl, by decide, by decide, by decide, by decide⟩
  · exact ⟨43, rfl, by decide, by decide, by decide, by decide⟩
  · exact ⟨60, rfl, by decide, by decide, by decide, by decide⟩
  · exact ⟨62, rfl, by decide, by decide, by decide, by decide⟩
theorem tok_sign {o c : Nat} (ho : o < 35) (h3 : 29 ≤ o) (hw : wt o = [c]) (h1 : isLe c = false) (h2 : isDi c = false) : tok b u q = o ↔ q < u ∧ b q = c := by
  by_cases hq : q < u
  · by_cases hd : isDi (b q) = true
    · rw [tok_1.mpr ⟨hq, hd⟩]
      exact ⟨fun z => by omega, fun z => by rw [z.2, h2] at hd; cases hd⟩
    · rw [tok_sp ho (by omega) hq hd, hw]
      constructor
      · intro z
        have := z.2
        unfold mtc at this
        rw [Bool.and_eq_true] at this
        exact ⟨hq, of_decide_eq_true this.1⟩
      · intro z
        have e : en b u q = q + 1 := by unfold en; rw [if_neg (by rw [z.2, h1]; decide), if_neg hd]
        rw [e]
        refine ⟨by show 1 = q + 1 - q; omega, ?_⟩
        unfold mtc mtc; rw [z.2]; simp
  · rw [tok_u hq]; exact ⟨fun z => by omega, fun z => absurd z.1 hq⟩
theorem nx_word {o : Nat} (ho : o < 29) (h3 : 3 ≤ o) (h : tok b u q = o) : nx b u q = sk b u (rn isLe b u q) := by
  have hq : q < u := by
    rcases Nat.lt_or_ge q u with z | z
    · exact z
    · rw [tok_u (by omega)] at h; omega
  obtain ⟨w2, -⟩ := wt_let o ho h3
  have := ((tok_word ho h3).mp h).1
  have le : isLe (b q) = true := by
    cases z : isLe (b q) with
    | true => rfl
    | false => rw [rn_n (fun y => by rw [z] at y; exact absurd y.2 (by decide))] at this; omega
  unfold nx en; rw [if_pos le]
theorem nx_sign {o : Nat} (ho : o < 35) (h3 : 29 ≤ o) (h : tok b u q = o) : nx b u q = sk b u (q + 1) := by
  obtain ⟨c, c1, c2, c3, c4, c5⟩ := wt_sign o ho h3
  have := ((tok_sign ho h3 c1 c3 c4).mp h).2
  unfold nx en; rw [if_neg (by rw [this, c3]; decide), if_neg (by rw [this, c4]; decide)]
theorem nx_num (h : tok b u q = 1) : nx b u q = sk b u (rn isDi b u q) := by
  have := (tok_1.mp h).2
  unfold nx en
  rw [if_neg (fun z => by have z1 := of_decide_eq_true z; have z2 := of_decide_eq_true this; omega), if_pos this]
theorem vl_1 (h : tok b u q = 1) : (vl b u q < 1000 ↔ ¬ 3 < rn isDi b u q - q) ∧ (¬ 3 < rn isDi b u q - q → vl b u q = nvG b (rn isDi b u q - q) q 0) := by
  have h1 := tok_1.mp h
  have e : vl b u q = nv b q (rn isDi b u q) := by unfold vl; rw [if_pos h1]
  rw [e]
  unfold nv
  by_cases c : 3 < rn isDi b u q - q
  · rw [if_pos c]; exact ⟨⟨fun z => by omega, fun z => absurd c z⟩, fun z => absurd c z⟩
  · rw [if_neg c]
    refine ⟨⟨fun _ => c, fun _ => ?_⟩, fun _ => rfl⟩
    have := nvG_b (b := b) (rn isDi b u q - q) q 0 (fun j a d => by
      have := rn_in (f := isDi) (i := q) (b := b) (u := u) a (by omega)
      have := of_decide_eq_true this; omega)
    have l : rn isDi b u q - q = 0 ∨ rn isDi b u q - q = 1 ∨ rn isDi b u q - q = 2 ∨ rn isDi b u q - q = 3 := by omega
    rcases l with l | l | l | l <;> rw [l] at this ⊢ <;> omega
end TOKS
/-- the scanner stands at a place; a word has been passed there -/
def RsA (h : Hp) (m : Nat) (b : Nat → Nat) (u q : Nat) : Prop := ∃ p, p ≤ u ∧ sk b u p = q ∧ h.2.1 m 10 = .int (nI p)
def BgA (h : Hp) (m q : Nat) : Prop := h.2.1 m 12 = .int (nI q)
def LtA (h : Hp) (m : Nat) (b : Nat → Nat) (u q : Nat) : Prop := q ≤ u ∧ sk b u q = q ∧ h.2.1 m 10 = .int (nI (rn isLe b u q)) ∧ BgA h m q
section SCAN
variable {G : Gx} {h h' : Hp} {tk : Nat → Nat} {m : Nat} {A : Vs} {b : Nat → Nat} {n u q : Nat}
theorem RsA.le (R : RsA h m b u q) : q ≤ u ∧ sk b u q = q := by
  obtain ⟨p, p1, p2, -⟩ := R
  rw [← p2]; exact ⟨rn_le p1, sk_sk⟩
theorem LtA.rs {o : Nat} (L : LtA h m b u q) (ho : o < 29) (h3 : 3 ≤ o) (e : tok b u q = o) : RsA h m b u (nx b u q) := ⟨_, rn_le L.1, (nx_word ho h3 e).symm, L.2.2.1⟩
theorem TpM.kS (T : TpM h m b n u) (F : Fs (mS m) h h') : TpM h' m b n u := T.keep F (fun a j z => by unfold mS; omega)
theorem WldAt.kS (W : WldAt h m A) (F : Fs (mS m) h h') : WldAt h' m A := W.keep (fun a _ _ => by rw [F.1]) (fun j hj => F.2.2 _ _ (by unfold mS; omega)) (fun j _ => F.2.2 _ _ (by unfold mS; omega))
theorem o_isAt (hl : G.1.stackTraces = false) (T : TpM h m b n u) {p lo hi : Nat} (hp : p ≤ u) (f : h.2.1 m 10 = .int (nI p)) (h1 : lo ≤ hi) (h2 : hi < 128) : EvI G m_Mo_isAt [.ref m, .int (nI lo), .int (nI hi)] h (if p < u ∧ lo ≤ b p ∧ b p ≤ hi then 1 else 0) := by
  have u4 := T.u400
  by_cases c : p < u
  · have bb := (T.2.2.2.2.2.2 p (by omega)).1
    have z0 := in_sx (k := b p) bb h1 h2
    refine en_Mo_isAt h _ _ _ _ (e_Mo_isAt_0 hl h _ _ _ _ ⟨_, ⟨T.kd, f⟩, _, T.f11, fun z => absurd z (nI_ge c (by omega)), fun _ => ⟨_, T.r8, _, ⟨T.kd, f⟩, _, T.at (by omega), fun d => ⟨?_, rfl⟩, fun d => ⟨_, T.r8, _, ⟨T.kd, f⟩, _, T.at (by omega), fun e => ⟨?_, rfl⟩, fun e => ⟨?_, rfl⟩⟩⟩⟩)
    · rw [if_pos d] at z0
      rw [if_neg (fun y => by rw [if_pos ⟨y.2.1, y.2.2⟩] at z0; exact absurd z0 (by decide))]
    · rw [if_neg d, if_pos e] at z0
      rw [if_neg (fun y => by rw [if_pos ⟨y.2.1, y.2.2⟩] at z0; exact absurd z0 (by decide))]
    · rw [if_neg d, if_neg e] at z0
      rw [if_pos ⟨c, ite1 (by rw [← z0]; decide)⟩]
  · refine en_Mo_isAt h _ _ _ _ (e_Mo_isAt_0 hl h _ _ _ _ ⟨_, ⟨T.kd, f⟩, _, T.f11, fun _ => ⟨?_, rfl⟩, fun z => absurd (nI_le (by omega) (by omega)) z⟩)
    rw [if_neg (fun y => c y.1)]
theorem o_blanks (hl : G.1.stackTraces = false) (hm : G.n0 ≤ m) (T : TpM h m b n u) {p : Nat} (hp : p ≤ u) (f : h.2.1 m 10 = .int (nI p)) : EvM G m_Mo_blanks [.ref m] h (fun o h' => o = .inl none ∧ h'.2.1 m 10 = .int (nI (sk b u p)) ∧ BgA h' m (sk b u p) ∧ Fs (mS m) h h') := by
  have u4 := T.u400
  refine en_Mo_blanks h _ _ ?_
  suffices hh : ∀ d p (g : Hp), p + d = u → Fs (mS m) h g → g.2.1 m 10 = .int (nI p) → ∀ p0, sk b u p0 = sk b u p → Ev G m_Mo_blanks 0 [.ref m] [] g 0 0 (fun o h' => o = .inl none ∧ h'.2.1 m 10 = .int (nI (sk b u p0)) ∧ BgA h' m (sk b u p0) ∧ Fs (mS m) h h') from hh (u - p) p h (by omega) Fs.rf f p rfl
  intro d
  induction d with
  | zero =>
    intro p g hp F f p0 e0
    have Tg := T.kS F
    have e : sk b u p = p := rn_n (by omega)
    refine e_Mo_blanks_0 hl g _ _ ⟨Tg.kd, _, o_isAt hl Tg (lo := 32) (hi := 32) (by omega) f (by omega) (by omega), fun z => ⟨_, ⟨Tg.kd, f⟩, ⟨hm, Tg.kd⟩, rfl, ?_, ?_, F.set ⟨rfl, Or.inr rfl⟩⟩, fun z => absurd (ite1 z).1 (by omega)⟩
    · rw [hs_ne (by omega), e0, e]; exact f
    · rw [e0, e]; exact hs_eq
  | succ d ih =>
    intro p g hp F f p0 e0
    have Tg := T.kS F
    refine e_Mo_blanks_0 hl g _ _ ⟨Tg.kd, _, o_isAt hl Tg (lo := 32) (hi := 32) (by omega) f (by omega) (by omega), fun z => ⟨_, ⟨Tg.kd, f⟩, ⟨hm, Tg.kd⟩, rfl, ?_, ?_, F.set ⟨rfl, Or.inr rfl⟩⟩, fun z => ⟨_, ⟨Tg.kd, f⟩, ⟨hm, Tg.kd⟩, e_Mo_blanks_21 hl _ _ _ ?_⟩⟩
    · have e : sk b u p = p := rn_n (fun y => ite0 z ⟨y.1, by have := of_decide_eq_true y.2; omega⟩)
      rw [hs_ne (by omega), e0, e]; exact f
    · have e : sk b u p = p := rn_n (fun y => ite0 z ⟨y.1, by have := of_decide_eq_true y.2; omega⟩)
      rw [e0, e]; exact hs_eq
    · have z' := ite1 z
      rw [nI_1]
      exact ih (p + 1) _ (by omega) (F.set ⟨rfl, Or.inl rfl⟩) hs_eq p0 (by rw [e0]; exact rn_s z'.1 (decide_eq_true (by omega)))
theorem o_letters (hl : G.1.stackTraces = false) (hm : G.n0 ≤ m) (T : TpM h m b n u) (R : RsA h m b u q) : EvM G m_Mo_letters [.ref m] h (fun o h' => o = .inl none ∧ LtA h' m b u q ∧ Fs (mS m) h h') := by
  obtain ⟨p, hp, e, f⟩ := R
  have u4 := T.u400
  have q1 : q ≤ u := by rw [← e]; exact rn_le hp
  have q2 : sk b u q = q := by rw [← e]; exact sk_sk
  refine en_Mo_letters h _ _ (e_Mo_letters_0 hl h _ _ ⟨T.kd, _, o_blanks hl hm T hp f, fun o1 h1 z => Or.inl ⟨z.1, ?_⟩⟩)
  obtain ⟨-, z2, z3, F1⟩ := z
  rw [e] at z2 z3
  suffices hh : ∀ d p (g : Hp), p + d = u → Fs (mS m) h g → BgA g m q → g.2.1 m 10 = .int (nI p) → rn isLe b u q = rn isLe b u p → Ev G m_Mo_letters 4 [.ref m] [] g 0 0 (fun o h' => o = .inl none ∧ LtA h' m b u q ∧ Fs (mS m) h h') from hh (u - q) q h1 (by omega) F1 z3 z2 rfl
  intro d
  induction d with
  | zero =>
    intro p g hp F B f e0
    have Tg := T.kS F
    refine e_Mo_letters_4 hl g _ _ ⟨Tg.kd, _, o_isAt hl Tg (lo := 97) (hi := 122) (by omega) f (by omega) (by omega), fun z => ⟨rfl, ⟨q1, q2, ?_, B⟩, F⟩, fun z => absurd (ite1 z).1 (by omega)⟩
    rw [e0, rn_n (by omega)]; exact f
  | succ d ih =>
    intro p g hp F B f e0
    have Tg := T.kS F
    refine e_Mo_letters_4 hl g _ _ ⟨Tg.kd, _, o_isAt hl Tg (lo := 97) (hi := 122) (by omega) f (by omega) (by omega), fun z => ⟨rfl, ⟨q1, q2, ?_, B⟩, F⟩, fun z => ⟨_, ⟨Tg.kd, f⟩, ⟨hm, Tg.kd⟩, e_Mo_letters_25 hl _ _ _ ?_⟩⟩
    · rw [e0, rn_n (fun y => ite0 z ⟨y.1, of_decide_eq_true y.2⟩)]; exact f
    · have z' := ite1 z
      rw [nI_1]
      refine ih (p + 1) _ (by omega) (F.set ⟨rfl, Or.inl rfl⟩) (by unfold BgA; rw [hs_ne (by omega)]; exact B) hs_eq ?_
      rw [e0]; exact rn_s z'.1 (decide_eq_true z'.2)
theorem o_isWord (hl : G.1.stackTraces = false) (O : Old G h tk) (T : TpM h m b n u) (L : LtA h m b u q) {sa o : Nat} (S : StrAt G h sa (wt o)) (ho : o < 29) (h3 : 3 ≤ o) : EvI G m_Mo_isWord [.ref m, .ref sa] h (if tok b u q = o then 1 else 0) := by
  have u4 := T.u400
  obtain ⟨l1, l2, l3, l4⟩ := L
  obtain ⟨w1, w2⟩ := wt_c o (by omega)
  have ln := s_length hl O S w1
  have rg := rn_ge (f := isLe) (b := b) (u := u) (i := q)
  have rl := rn_le (f := isLe) (b := b) l1
  have bb : ∀ j, j < u → b j < 256 := fun j hj => (T.2.2.2.2.2.2 j (by omega)).1
  have stop : ∀ k, ¬ tok b u q = o → Ev G m_Mo_isWord 24 [.ref m, .ref sa, .int 0, .int k] [] h 0 0 (fun r h' => r = .inl (some (.int (if tok b u q = o then 1 else 0))) ∧ h' = h) := fun k z =>
    e_Mo_isWord_24 hl h _ _ _ _ _ ⟨fun _ => bret_of (Or.inl rfl) ⟨by rw [if_neg z], rfl⟩, fun c => absurd rfl c⟩
  refine en_Mo_isWord h _ _ _ (e_Mo_isWord_0 hl h _ _ _ ⟨_, ⟨T.kd, l3⟩, _, ⟨T.kd, l4⟩, S.1, _, ln, fun c => ?_, fun c => ?_⟩)
  · rw [pk_sub rg] at c
    exact stop 0 (fun z => c (by rw [((tok_word ho h3).mp z).1]))
  · rw [pk_sub rg] at c
    have c' := (nI_eq (by omega) (by omega)).mp c
    suffices hh : ∀ d j, j + d = (wt o).length → (∀ i c, i < j → (wt o)[i]? = some c → b (q + i) = c) → Ev G m_Mo_isWord 24 [.ref m, .ref sa, .int 1, .int (nI j)] [] h 0 0 (fun r h' => r = .inl (some (.int (if tok b u q = o then 1 else 0))) ∧ h' = h) from hh (wt o).length 0 (by omega) (fun i c hi => by omega)
    intro d
    induction d with
    | zero =>
      intro j hj pre
      refine e_Mo_isWord_24 hl h _ _ _ _ _ ⟨fun z => absurd z (by decide), fun _ => ⟨S.1, _, ln, fun _ => bret_of (Or.inr rfl) ⟨?_, rfl⟩, fun z => absurd (by rw [show j = (wt o).length from hj]; exact Int32.le_refl _) z⟩⟩
      rw [if_pos ((tok_word ho h3).mpr ⟨c'.symm, mtc_t (fun i c hi => pre i c (by have := (List.getElem?_eq_some_iff.mp hi).1; omega) hi)⟩)]
    | succ d ih =>
      intro j hj pre
      obtain ⟨cc, hc⟩ : ∃ cc, (wt o)[j]? = some cc := ⟨_, List.getElem?_eq_getElem (by omega)⟩
      have c128 := w2 cc (List.mem_of_getElem? hc)
      have bj := bb (q + j) (by omega)
      refine e_Mo_isWord_24 hl h _ _ _ _ _ ⟨fun z => absurd z (by decide), fun _ => ⟨S.1, _, ln, fun z => absurd z (nI_ge (by omega) (by omega)), fun _ => ⟨_, T.r8, _, ⟨T.kd, l4⟩, sx (b (q + j)), by rw [nI_add]; exact T.at (by omega), S.1, _, s_charAt hl O S w1 hc c128, fun z => ?_, fun z => ?_⟩⟩⟩
      · refine stop _ (fun y => ?_)
        have := ((tok_word ho h3).mp y).2
        rw [mtc_f hc (fun w => z ((sx_eq bj c128).mpr w))] at this; cases this
      · have z' := (sx_eq bj c128).mp z
        rw [nI_1]
        exact ih (j + 1) (by omega) (fun i c hi hic => by
          by_cases y : i = j
          · subst y; rw [hc] at hic; rw [z']; exact Option.some.inj hic
          · exact pre i c (by omega) hic)
theorem LitG.keep (Lg : LitG G h) (e : ∀ a, a < G.n0 → h'.1 a = h.1 a ∧ h'.2.1 a = h.2.1 a) : LitG G h' := fun i hi => (Lg i hi).keep e
theorem mS_old (hm : G.n0 ≤ m) (F : Fs (mS m) h h') : ∀ a, a < G.n0 → h'.1 a = h.1 a ∧ h'.2.1 a = h.2.1 a := fun a ha => ⟨by rw [F.1], funext fun j => F.2.2 a j (by unfold mS; omega)⟩
theorem o_passes (hl : G.1.stackTraces = false) (hm : G.n0 ≤ m) (O : Old G h tk) (T : TpM h m b n u) (R : RsA h m b u q) {sa o : Nat} (S : StrAt G h sa (wt o)) (ho : o < 29) (h3 : 3 ≤ o) : EvM G m_Mo_passes [.ref m, .ref sa] h (fun r h' => r = .inl (some (.int (if tok b u q = o then 1 else 0))) ∧ RsA h' m b u (if tok b u q = o then nx b u q else q) ∧ BgA h' m q ∧ Fs (mS m) h h') := by
  refine en_Mo_passes h _ _ _ (e_Mo_passes_0 hl h _ _ _ ⟨T.kd, _, o_letters hl hm T R, fun o1 h1 z => Or.inl ?_⟩)
  obtain ⟨z1, L, F⟩ := z
  have T1 := T.kS F
  have od := mS_old hm F
  refine ⟨z1, T1.kd, _, o_isWord hl (O.keep od) T1 L (S.keep od) ho h3, fun c => ⟨_, ⟨T1.kd, L.2.2.2⟩, ⟨hm, T1.kd⟩, e_Mo_passes_22 hl _ _ ?_⟩, fun c => ?_⟩
  · rw [if_neg (ite0 c), if_neg (ite0 c)]
    exact ⟨rfl, ⟨q, L.1, L.2.1, hs_eq⟩, by unfold BgA; rw [hs_ne (by omega)]; exact L.2.2.2, F.set ⟨rfl, Or.inl rfl⟩⟩
  · rw [if_pos (ite1 c), if_pos (ite1 c)]
    exact ⟨rfl, L.rs ho h3 (ite1 c), L.2.2.2, F⟩
theorem o_sign (hl : G.1.stackTraces = false) (hm : G.n0 ≤ m) (T : TpM h m b n u) (R : RsA h m b u q) {o c : Nat} (ho : o < 35) (h3 : 29 ≤ o) (hw : wt o = [c]) : EvM G m_Mo_sign [.ref m, .int (nI c)] h (fun r h' => r = .inl (some (.int (if tok b u q = o then 1 else 0))) ∧ RsA h' m b u (if tok b u q = o then nx b u q else q) ∧ BgA h' m q ∧ Fs (mS m) h h') := by
  obtain ⟨c', k1, k2, k3, k4, k5⟩ := wt_sign o ho h3
  have e : c' = c := by rw [hw] at k1; exact (List.cons.inj k1).1.symm
  subst e
  obtain ⟨q1, q2⟩ := R.le
  obtain ⟨p, hp, e, f⟩ := R
  have iff := tok_sign (b := b) (u := u) (q := q) ho h3 hw k3 k4
  refine en_Mo_sign h _ _ _ (e_Mo_sign_0 hl h _ _ _ ⟨T.kd, _, o_blanks hl hm T hp f, fun o1 h1 z => Or.inl ?_⟩)
  obtain ⟨z1, z2, z3, F⟩ := z
  rw [e] at z2 z3
  have T1 := T.kS F
  refine ⟨z1, T1.kd, _, o_isAt hl T1 q1 z2 (Nat.le_refl _) k2, fun y => ⟨_, ⟨T1.kd, z2⟩, ⟨hm, T1.kd⟩, e_Mo_sign_25 hl _ _ ?_⟩, fun y => ?_⟩
  · have y' := ite1 y
    have t : tok b u q = o := iff.mpr ⟨y'.1, by omega⟩
    rw [if_pos t, if_pos t, nI_1]
    exact ⟨rfl, ⟨q + 1, by omega, (nx_sign ho h3 t).symm, hs_eq⟩, by unfold BgA; rw [hs_ne (by omega)]; exact z3, F.set ⟨rfl, Or.inl rfl⟩⟩
  · have t : ¬ tok b u q = o := fun w => ite0 y ⟨(iff.mp w).1, by have := (iff.mp w).2; omega, by have := (iff.mp w).2; omega⟩
    rw [if_neg t, if_neg t]
    exact ⟨rfl, ⟨q, q1, q2, z2⟩, z3, F⟩
/-- a number within bounds, the upper one any -/
def isM (b : Nat → Nat) (u lo : Nat) (hi : Int32) (q : Nat) : Prop := tok b u q = 1 ∧ vl b u q < 1000 ∧ lo ≤ vl b u q ∧ nI (vl b u q) ≤ hi
theorem o_number (hl : G.1.stackTraces = false) (hm : G.n0 ≤ m) (T : TpM h m b n u) (R : RsA h m b u q) {lo : Nat} (hlo : lo ≤ 1000) (hi : Int32) (c : Prop) [Decidable c] (hc : c ↔ isM b u lo hi q) : EvM G m_Mo_number [.ref m, .int (nI lo), .int hi] h (fun r h' => r = .inl (some (.int (if c then nI (vl b u q) else -1))) ∧ (c → RsA h' m b u (nx b u q)) ∧ BgA h' m q ∧ Fs (mS m) h h') := by
  obtain ⟨q1, q2⟩ := R.le
  obtain ⟨p, hp, e, f⟩ := R
  have u4 := T.u400
  refine en_Mo_number h _ _ _ _ (e_Mo_number_0 hl h _ _ _ _ ⟨T.kd, _, o_blanks hl hm T hp f, fun o1 h1 z => Or.inl ⟨z.1, ?_⟩⟩)
  obtain ⟨-, z2, z3, F1⟩ := z
  rw [e] at z2 z3
  /- behind the digits -/
  have fin : ∀ (g : Hp) (v : Int32), Fs (mS m) h g → BgA g m q → g.2.1 m 10 = .int (nI (rn isDi b u q)) → (¬ 3 < rn isDi b u q - q → v = nI (nvG b (rn isDi b u q - q) q 0)) → Ev G m_Mo_number 6 [.ref m, .int (nI lo), .int hi, .int v] [] g 0 0 (fun r h' => r = .inl (some (.int (if c then nI (vl b u q) else -1))) ∧ (c → RsA h' m b u (nx b u q)) ∧ BgA h' m q ∧ Fs (mS m) h h') := fun g v F B f ev => by
    have Tg := T.kS F
    have rl := rn_le (f := isDi) (b := b) q1
    have rg := rn_ge (f := isDi) (b := b) (u := u) (i := q)
    have no : ¬ c → (fun r h' => r = .inl (some (.int (if c then nI (vl b u q) else -1))) ∧ (c → RsA h' m b u (nx b u q)) ∧ BgA h' m q ∧ Fs (mS m) h h') (Sum.inl (some (Value.int (-1))) : Res) g := fun w => by
      simp only
      rw [if_neg w]; exact ⟨rfl, fun z => absurd z w, B, F⟩
    refine e_Mo_number_6 hl g _ _ _ _ _ ⟨Tg.kd, _, o_isAt hl Tg (lo := 48) (hi := 57) rl f (by omega) (by omega), fun z => ⟨_, ⟨Tg.kd, f⟩, _, ⟨Tg.kd, B⟩, fun y => no (fun w => ?_), fun y => ⟨_, ⟨Tg.kd, f⟩, _, ⟨Tg.kd, B⟩, fun w => no (fun v => ?_), fun w => ⟨fun s => no (fun t => ?_), fun s => ⟨fun t => ?_, fun t => no (fun r => ?_)⟩⟩⟩⟩, fun z => absurd (ite1 z) (fun y => rn_end (f := isDi) (b := b) (u := u) (i := q) ⟨y.1, decide_eq_true y.2⟩)⟩
    · have y' := (nI_eq (by omega) (by omega)).mp y
      have t := tok_1.mp (hc.mp w).1
      have := rn_gt t.1 t.2; omega
    · rw [pk_sub rg] at w
      have := (nI_ltI (a := 3) (by decide) (by omega)).mp w
      have t := hc.mp v
      exact (vl_1 t.1).1.mp t.2.1 this
    · have t' := hc.mp t
      have e1 := (vl_1 t'.1).2 ((vl_1 t'.1).1.mp t'.2.1)
      rw [ev ((vl_1 t'.1).1.mp t'.2.1), ← e1] at s
      have v1 : vl b u q < 1000 := t'.2.1
      have v2 : lo ≤ vl b u q := t'.2.2.1
      have := (nI_ltI (by omega) (by omega)).mp s; omega
    · rw [pk_sub rg] at w
      have w' : ¬ 3 < rn isDi b u q - q := fun y => w (nI_lt (a := 3) y (by omega))
      have y' : ¬ rn isDi b u q = q := fun r => y (by rw [r])
      have t1 : tok b u q = 1 := tok_1.mpr (by
        by_cases r : q < u ∧ isDi (b q) = true
        · exact r
        · exact absurd (rn_n r) y')
      have e1 := (vl_1 t1).2 w'
      have vb := (vl_1 t1).1.mpr w'
      rw [ev w', ← e1] at s t
      have cc : c := hc.mpr ⟨t1, vb, by
        rcases Nat.lt_or_ge (vl b u q) lo with r | r
        · exact absurd (nI_lt r (by omega)) s
        · exact r, t⟩
      rw [ev w', ← e1, if_pos cc]
      exact ⟨rfl, fun _ => ⟨_, rl, (nx_num t1).symm, f⟩, B, F⟩
    · have r' := hc.mp r
      have e1 := (vl_1 r'.1).2 ((vl_1 r'.1).1.mp r'.2.1)
      rw [ev ((vl_1 r'.1).1.mp r'.2.1), ← e1] at t
      exact t r'.2.2.2
  suffices hh : ∀ d p (g : Hp) (v : Int32), p + d = rn isDi b u q → q ≤ p → Fs (mS m) h g → BgA g m q → g.2.1 m 10 = .int (nI p) → (¬ 3 < p - q → v = nI (nvG b (p - q) q 0)) → Ev G m_Mo_number 6 [.ref m, .int (nI lo), .int hi, .int v] [] g 0 0 (fun r h' => r = .inl (some (.int (if c then nI (vl b u q) else -1))) ∧ (c → RsA h' m b u (nx b u q)) ∧ BgA h' m q ∧ Fs (mS m) h h') from hh (rn isDi b u q - q) q h1 0 (by have := rn_ge (f := isDi) (b := b) (u := u) (i := q); omega) (Nat.le_refl _) F1 z3 z2 (fun _ => by rw [Nat.sub_self]; rfl)
  intro d
  induction d with
  | zero => intro p g v hp _ F B f ev; have hp' : p = rn isDi b u q := hp; subst hp'; exact fin g v F B f ev
  | succ d ih =>
    intro p g v hp qp F B f ev
    have Tg := T.kS F
    have rl := rn_le (f := isDi) (b := b) q1
    have dp := rn_in (f := isDi) (b := b) (u := u) qp (by omega : p < rn isDi b u q)
    have dp' := of_decide_eq_true dp
    refine e_Mo_number_6 hl g _ _ _ _ _ ⟨Tg.kd, _, o_isAt hl Tg (lo := 48) (hi := 57) (by omega) f (by omega) (by omega), fun z => absurd ⟨by omega, dp'⟩ (ite0 z), fun z => ⟨_, ⟨Tg.kd, f⟩, _, ⟨Tg.kd, B⟩, fun y => ⟨_, ⟨Tg.kd, f⟩, ⟨hm, Tg.kd⟩, e_Mo_number_62 hl _ _ _ _ _ _ ?_⟩, fun y => ⟨_, Tg.r8, _, ⟨Tg.kd, f⟩, nI (b p), by rw [← sx_lo (by omega : b p < 128)]; exact Tg.at (by omega), _, ⟨Tg.kd, f⟩, ⟨hm, Tg.kd⟩, e_Mo_number_62 hl _ _ _ _ _ _ ?_⟩⟩⟩
    · rw [pk_sub qp] at y
      have := (nI_leI (a := 3) (by decide) (by omega)).mp y
      rw [nI_1]
      exact ih (p + 1) _ v (by omega) (by omega) (F.set ⟨rfl, Or.inl rfl⟩) (by unfold BgA; rw [hs_ne (by omega)]; exact B) hs_eq (fun w => by omega)
    · rw [pk_sub qp] at y
      have y' : ¬ 3 ≤ p - q := fun w => y (nI_le (a := 3) w (by omega))
      rw [nI_1]
      refine ih (p + 1) _ _ (by omega) (by omega) (F.set ⟨rfl, Or.inl rfl⟩) (by unfold BgA; rw [hs_ne (by omega)]; exact B) hs_eq (fun _ => ?_)
      have sn : ∀ d i v, nvG b (d + 1) i v = 10 * nvG b d i v + (b (i + d) - 48) := by
        intro d
        induction d with
        | zero => intro i v; rfl
        | succ d ihd =>
          intro i v
          show nvG b (d + 1) (i + 1) (10 * v + (b i - 48)) = 10 * nvG b d (i + 1) (10 * v + (b i - 48)) + _
          rw [ihd (i + 1), show i + 1 + d = i + (d + 1) by omega]
      rw [ev (by omega), show p + 1 - q = (p - q) + 1 by omega, sn, show q + (p - q) = p by omega, show (10 : Int32) = nI 10 from rfl, pk_mul, nI_add, show (48 : Int32) = nI 48 from rfl, pk_sub (by omega)]
      congr 1; omega
end SCAN
