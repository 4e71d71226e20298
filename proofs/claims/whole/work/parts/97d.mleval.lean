/-! ===== what a law says: the reference ===== -/
def CdM (c : Nat → Value) (bs : Nat) (cs : List (Nat × Nat)) : Prop := cs.length ≤ 400 ∧ ∀ j k n, cs[j]? = some (k, n) → c (bs + 49 + 2 * j) = .int (nI k) ∧ c (bs + 49 + 2 * j + 1) = .int (nI n)
def StA (h : Hp) (m : Nat) (st : List Int32) : Prop := ∀ j y, st.reverse[j]? = some y → h.2.1 (m + 8) j = .int y
def mV8 (m : Nat) : Nat → Nat → Prop := fun a _ => a = m + 8
theorem stR_bi {A : Vs} {p k n : Nat} {st w : List Int32} (h10 : 10 < k) (h14 : ¬ k = 14) (e : stR A p (k, n) st = some w) : k ≤ 16 ∧ ∃ y x s, st = y :: x :: s ∧ w = biR k x y :: s := by
  unfold stR at e
  rw [if_neg (by simp only; omega), if_neg h14] at e
  cases st with
  | nil => cases e
  | cons y t =>
    cases t with
    | nil => cases e
    | cons x s =>
      have e' : (if k ≤ 16 then some (biR k x y :: s) else none) = some w := e
      by_cases z : k ≤ 16
      · rw [if_pos z] at e'; exact ⟨z, y, x, s, rfl, (Option.some.inj e').symm⟩
      · rw [if_neg z] at e'; cases e'
theorem stR_not {A : Vs} {p k n : Nat} {st w : List Int32} (h14 : k = 14) (e : stR A p (k, n) st = some w) : ∃ y s, st = y :: s ∧ w = (1 - y) :: s := by
  unfold stR at e
  rw [if_neg (by simp only; omega), if_pos h14] at e
  cases st with
  | nil => cases e
  | cons y t => exact ⟨y, t, rfl, (Option.some.inj e).symm⟩
theorem stR_big {A : Vs} {p k n : Nat} {st w : List Int32} (e : stR A p (k, n) st = some w) : k ≤ 16 := by
  rcases Nat.lt_or_ge 16 k with z | z
  · exact (stR_bi (by omega) (by omega) e).1
  · exact z
section MEV
variable {G : Gx} {h h' h0 : Hp} {m : Nat} {A : Vs} {D : List Ln} {p : Nat}
theorem o_fact (hl : G.1.stackTraces = false) (W : WldAt h m A) (F : Wf A) (hp : p < nP A) {c : Nat} (hc : c ≤ 10) (n : Int32) : EvI G m_Mo_factOf [.ref m, .int (nI c), .int n, .int (nI p)] h (if c < 10 then fcF A p c else n) := by
  have B := F.1
  have p7 := B.P7 hp
  have m1 : ∀ k : Nat, k < 10 → nI c = nI k → (if c < 10 then fcF A p c else n) = fcF A p k := fun k hk e => by
    have := (nI_eq (by omega) (by omega)).mp e
    rw [this, if_pos hk]
  refine en_Mo_factOf h _ _ _ _ _ (e_Mo_factOf_0 hl h _ _ _ _ _ ⟨⟨fun e => ⟨?_, rfl⟩, fun e => ⟨W.kd, _, o_of hl W p7 (f := 0) (by decide), ?_, rfl⟩, fun e => ⟨W.kd, _, o_of hl W p7 (f := 1) (by decide), ?_, rfl⟩, fun e => ⟨W.kd, _, o_ownedBy hl W B _, _, j_bitCount hl _, ?_, rfl⟩, fun e => ⟨W.kd, _, o_onClothOf hl W B _, _, j_bitCount hl _, ?_, rfl⟩, fun e => ⟨W.kd, _, o_heldBy hl W F _, fun d => ?_, fun d => ⟨?_, rfl⟩⟩, fun e => ⟨_, W.r1, _, W.at (k := 0) (j := 2) (n := 6) (d0 (by decide)) rfl, by decide, ?_, rfl⟩, fun e => ⟨W.kd, _, o_heldBy hl W F _, fun d => ⟨?_, rfl⟩, fun d => ⟨?_, rfl⟩⟩, fun e => ⟨W.kd, _, o_of hl W p7 (f := 3) (by decide), ?_, rfl⟩, fun e => ⟨W.kd, _, o_succ hl W F hp, fun d => ⟨?_, rfl⟩, fun d => ⟨?_, rfl⟩⟩, trivial⟩, fun e => ⟨?_, rfl⟩⟩)
  · rw [m1 0 (by decide) e]; rfl
  · rw [m1 1 (by decide) e]; rfl
  · rw [m1 2 (by decide) e]; rfl
  · rw [m1 3 (by decide) e]; rfl
  · rw [m1 4 (by decide) e]; rfl
  · rcases holdF_spec A (nI p) with ⟨z, -⟩ | ⟨k, hk, z, -, -⟩
    · exact absurd z d
    · have k10 := B.T10 hk
      refine ⟨W.kd, _, o_heldBy hl W F _, W.kd, A 7 k, by rw [z]; exact o_ofThing hl W k10 (f := 1) (by decide), ?_, rfl⟩
      rw [m1 5 (by decide) e]
      show _ = Sum.inl (some (Value.int (if holdF A (nI p) = -1 then 0 else A 7 (holdF A (nI p)).toNatClampNeg)))
      rw [if_neg d, z, nI_clamp (by omega)]
  · rw [m1 5 (by decide) e]
    show _ = Sum.inl (some (Value.int (if holdF A (nI p) = -1 then 0 else A 7 (holdF A (nI p)).toNatClampNeg)))
    rw [if_pos d]
  · rw [m1 6 (by decide) e]; rfl
  · rw [m1 7 (by decide) e]
    show _ = Sum.inl (some (Value.int (if holdF A (nI p) = -1 then 1 else 0)))
    rw [if_neg d]
  · rw [m1 7 (by decide) e]
    show _ = Sum.inl (some (Value.int (if holdF A (nI p) = -1 then 1 else 0)))
    rw [if_pos d]
  · rw [m1 8 (by decide) e]
    show Sum.inl (some (Value.int (A 4 p))) = Sum.inl (some (Value.int (if A 4 p = 1 then 1 else 0)))
    rcases (F.2.2.1 p hp).1 with z | z <;> rw [z] <;> rfl
  · rw [m1 9 (by decide) e]
    show _ = Sum.inl (some (Value.int (if succF A p = -1 then 1 else 0)))
    rw [if_neg d]
  · rw [m1 9 (by decide) e]
    show _ = Sum.inl (some (Value.int (if succF A p = -1 then 1 else 0)))
    rw [if_pos d]
  · have : ¬ c < 10 := fun z => by
      rcases e with e | e
      · exact absurd e (nI_pos (by omega))
      · exact absurd (show nI 10 ≤ nI c from e) (nI_ge z (by decide))
    rw [if_neg this]
theorem StA.push {st : List Int32} {y : Int32} (S : StA h m st) : StA (hset h (m + 8) st.length (.int y)) m (y :: st) := by
  intro j w e
  rw [List.reverse_cons] at e
  rcases snoc_get e with ⟨z, v⟩ | ⟨z, rfl⟩
  · rw [hs_ne (by rw [List.length_reverse] at z; omega)]; exact S j w v
  · rw [List.length_reverse] at z
    rw [z]; exact hs_eq
theorem StA.pop {st : List Int32} {y : Int32} (S : StA h m (y :: st)) : StA h m st ∧ h.2.1 (m + 8) st.length = .int y := by
  refine ⟨fun j w e => S j w ?_, S st.length y ?_⟩
  · rw [List.reverse_cons, List.getElem?_append_left (List.getElem?_eq_some_iff.mp e).1]; exact e
  · rw [List.reverse_cons, List.getElem?_append_right (by rw [List.length_reverse]; exact Nat.le_refl _), List.length_reverse, Nat.sub_self]; rfl
theorem WldAt.k8 (W : WldAt h m A) (F : Fs (mV8 m) h h') : WldAt h' m A := W.keepF F (fun j _ z => by unfold mV8 at z; omega) (fun j _ z => by unfold mV8 at z; omega)
theorem o_line8 (hl : G.1.stackTraces = false) (hm : G.n0 ≤ m) (F : Wf A) (hp : p < nP A) {cc : Nat → Value} (Lc : LnM cc 394 D) (Cc : CdM cc 394 (cdsD D)) (d12 : D.length ≤ 12) {i : Nat} {l : Ln} (hi : D[i]? = some l) {P : Res → Hp → Prop} {st' : List Int32} : ∀ (cs : List (Nat × Nat)) (j : Nat) (st : List Int32) {h : Hp}, (∀ k c, cs[k]? = some c → (cdsD D)[j + k]? = some c) → j + cs.length = (cdsD (D.take (i + 1))).length → st.length + cs.length ≤ 400 → runR A p cs st = some st' → WldAt h m A → h.2.1 (m + 1) = cc → StA h m st → Fs (mV8 m) h0 h → (∀ h', WldAt h' m A → StA h' m st' → Fs (mV8 m) h0 h' → (nI st'.length = 0 → P (.inl (some (.int 1))) h') ∧ (¬ nI st'.length = 0 → ∃ y3, fR h' 11 m 17 y3 ∧ ∃ x4, aI h' 101 y3 0 x4 ∧ (¬ x4 = 1 → P (.inl (some (.int 0))) h') ∧ (x4 = 1 → P (.inl (some (.int 1))) h'))) → Ev G m_Mo_holdsLine 22 [.ref m, un, .int (nI p), .int (nI st.length), .int (nI (395 + 4 * i)), .int (nI j), un, un, un, un] [] h 0 0 P := by
  have i12 : i < 12 := by have := (List.getElem?_eq_some_iff.mp hi).1; omega
  have e3 := (Lc i l hi).2.2.2
  have ix3 : nI (395 + 4 * i) + 3 = nI (394 + 1 + 4 * i + 3) := by rw [show (3 : Int32) = nI 3 from rfl, nI_add, show 395 + 4 * i + 3 = 394 + 1 + 4 * i + 3 by omega]
  have c4 := Cc.1
  have le : (cdsD (D.take (i + 1))).length ≤ (cdsD D).length := by
    have := congrArg List.length (congrArg cdsD (List.take_append_drop (i + 1) D))
    rw [cdsD_app, List.length_append] at this; omega
  intro cs
  induction cs with
  | nil =>
    intro j st h hs hj hb hr W ec S Fr fin
    have hj' : j = (cdsD (D.take (i + 1))).length := hj
    have : st = st' := Option.some.inj hr
    subst this
    have r3 : aI h 101 (m + 1) (nI (395 + 4 * i) + 3) (nI (cdsD (D.take (i + 1))).length) := by
      rw [ix3]; exact aI_of W.1.2.1 (by omega) (by decide) (by rw [ec]; exact e3)
    obtain ⟨f1, f2⟩ := fin h W S Fr
    exact e_Mo_holdsLine_22 hl h _ _ _ _ _ _ ⟨_, W.r1, _, r3, fun _ => ⟨f1, f2⟩, fun c => absurd (by rw [hj']; exact Int32.le_refl _) c⟩
  | cons c cs ih =>
    intro j st h hs hj hb hr W ec S Fr fin
    obtain ⟨k, n⟩ := c
    have hl' : ((k, n) :: cs).length = cs.length + 1 := rfl
    have jl : j < 400 := by omega
    obtain ⟨ck, cn⟩ := Cc.2 j k n (hs 0 (k, n) rfl)
    have ixk : (443 : Int32) + 2 * nI j = nI (394 + 49 + 2 * j) := by rw [show (443 : Int32) = nI 443 from rfl, show (2 : Int32) = nI 2 from rfl, pk_mul, nI_add]
    have r3 : aI h 101 (m + 1) (nI (395 + 4 * i) + 3) (nI (cdsD (D.take (i + 1))).length) := by
      rw [ix3]; exact aI_of W.1.2.1 (by omega) (by decide) (by rw [ec]; exact e3)
    have rk : aI h 101 (m + 1) ((443 : Int32) + 2 * nI j) (nI k) := by
      rw [ixk]; exact aI_of W.1.2.1 (by omega) (by decide) (by rw [ec]; exact ck)
    have rn' : aI h 101 (m + 1) ((443 : Int32) + 2 * nI j + 1) (nI n) := by
      rw [ixk, nI_1]; exact aI_of W.1.2.1 (by omega) (by decide) (by rw [ec]; exact cn)
    have f17 : fR h 11 m 17 (m + 8) := ⟨W.kd, W.1.1.2.2.2.2.2.2.2.2.1⟩
    have s8 : h.1 (m + 8) = (101, 400) := W.1.2.2.2.2.2.2.2.2.1
    /- one step on -/
    have nxt : ∀ (st1 : List Int32) (g : Hp), stR A p (k, n) st = some st1 → st1.length ≤ st.length + 1 → StA g m st1 → Fs (mV8 m) h g → Ev G m_Mo_holdsLine 257 [.ref m, un, .int (nI p), .int (nI st1.length), .int (nI (395 + 4 * i)), .int (nI j), un, un, un, un] [] g 0 0 P := by
      intro st1 g e1 l1 S1 F1
      refine e_Mo_holdsLine_257 hl _ _ _ _ _ _ _ ?_
      rw [nI_1]
      refine ih (j + 1) st1 (fun kk c hk => by rw [show j + 1 + kk = j + (kk + 1) by omega]; exact hs (kk + 1) c hk) (by omega) (by omega) ?_ (W.k8 F1) ?_ S1 (Fr.tr F1) fin
      · have : (stR A p (k, n) st).bind (runR A p cs) = some st' := hr
        rw [e1] at this; exact this
      · rw [← ec]; exact funext fun jj => F1.2.2 _ _ (by unfold mV8; omega)
    have hr' : (stR A p (k, n) st).bind (runR A p cs) = some st' := hr
    obtain ⟨w, ew, er⟩ := Option.bind_eq_some_iff.mp hr'
    have kb : k < 2 ^ 31 := by have := stR_big ew; omega
    refine e_Mo_holdsLine_22 hl h _ _ _ _ _ _ ⟨_, W.r1, _, r3, fun c => absurd c (nI_ge (by omega) (by omega)), fun _ => ⟨_, W.r1, _, rk, fun c10 => ⟨fun c14 => ?_, fun c14 => ?_⟩, fun c10 => ?_⟩⟩
    · have k10 : 10 < k := (nI_ltI (a := 10) (by decide) kb).mp c10
      have k14 : ¬ k = 14 := fun z => c14 (by rw [z]; rfl)
      obtain ⟨k16, y, x, s, est, ewt⟩ := stR_bi k10 k14 ew
      subst est; subst ewt
      obtain ⟨S1, vy⟩ := S.pop
      obtain ⟨S2, vx⟩ := S1.pop
      have hb' : s.length + 1 + 1 + (cs.length + 1) ≤ 400 := hb
      have l2 : nI (y :: x :: s).length + -1 = nI (s.length + 1) := by
        show nI (s.length + 1 + 1) + -1 = _
        rw [← nI_1 (s.length + 1)]; grind
      have l1 : nI (s.length + 1) - 1 = nI s.length := by rw [← nI_1]; grind
      rw [l2, l1]
      have ax : aI h 101 (m + 8) (nI s.length) x := aI_of s8 (by omega) (by decide) vx
      have ay : aI h 101 (m + 8) (nI (s.length + 1)) y := aI_of s8 (by omega) (by decide) vy
      have leaf : ∀ r, r = biR k x y → aW G h 101 (m + 8) (nI s.length) ∧ Ev G m_Mo_holdsLine 257 [.ref m, un, .int (nI p), .int (nI (s.length + 1)), .int (nI (395 + 4 * i)), .int (nI j), un, un, un, un] [] (hset h (m + 8) (nI s.length).toNatClampNeg (.int r)) 0 0 P := fun r er => by
        refine ⟨aW_of (by omega) s8 (by omega) (by decide), ?_⟩
        rw [nI_clamp (by omega), er]
        exact nxt (biR k x y :: s) _ ew (by show s.length + 1 ≤ s.length + 1 + 1 + 1; omega) S2.push (Fs.rf.set rfl)
      have k11 : nI k = 11 ↔ k = 11 := nI_eq (b := 11) kb (by decide)
      have k12 : nI k = 12 ↔ k = 12 := nI_eq (b := 12) kb (by decide)
      have k13 : nI k = 13 ↔ k = 13 := nI_eq (b := 13) kb (by decide)
      have k15 : nI k = 15 ↔ k = 15 := nI_eq (b := 15) kb (by decide)
      refine ⟨_, f17, x, ax, _, f17, y, ay, fun c12 => ⟨fun c13 => ⟨fun c15 => ⟨fun s0 => ⟨_, f17, fun c11 => ⟨fun _ => leaf _ ?_, fun z => absurd rfl z⟩, fun c11 => leaf _ ?_⟩, fun s0 => ⟨_, f17, fun c11 => ⟨fun z => absurd z one0, fun _ => leaf _ ?_⟩, fun c11 => leaf _ ?_⟩⟩, fun c15 => ⟨fun s0 => ⟨_, f17, fun c11 => ⟨fun _ => leaf _ ?_, fun z => absurd rfl z⟩, fun c11 => leaf _ ?_⟩, fun s0 => ⟨_, f17, fun c11 => ⟨fun z => absurd z one0, fun _ => leaf _ ?_⟩, fun c11 => leaf _ ?_⟩⟩⟩, fun c13 => ⟨fun s0 => ⟨_, f17, fun c11 => ⟨fun _ => leaf _ ?_, fun z => absurd rfl z⟩, fun c11 => leaf _ ?_⟩, fun s0 => ⟨_, f17, fun c11 => ⟨fun z => absurd z one0, fun _ => leaf _ ?_⟩, fun c11 => leaf _ ?_⟩⟩⟩, fun c12 => ⟨fun s0 => ⟨_, f17, fun c11 => ⟨fun _ => leaf _ ?_, fun z => absurd rfl z⟩, fun c11 => leaf _ ?_⟩, fun s0 => ⟨_, f17, fun c11 => ⟨fun z => absurd z one0, fun _ => leaf _ ?_⟩, fun c11 => leaf _ ?_⟩⟩⟩
      · unfold biR; rw [if_neg (fun z => c11 (k11.mpr z)), if_neg (fun z => c12 (k12.mpr z)), if_neg (fun z => c13 (k13.mpr z)), if_neg (fun z => c15 (k15.mpr z)), if_neg (Int32.not_lt.mpr s0)]
      · unfold biR; rw [if_pos (k11.mp c11)]
      · unfold biR; rw [if_neg (fun z => c11 (k11.mpr z)), if_neg (fun z => c12 (k12.mpr z)), if_neg (fun z => c13 (k13.mpr z)), if_neg (fun z => c15 (k15.mpr z)), if_pos (Int32.not_le.mp s0)]
      · unfold biR; rw [if_pos (k11.mp c11)]
      · unfold biR; rw [if_neg (fun z => c11 (k11.mpr z)), if_neg (fun z => c12 (k12.mpr z)), if_neg (fun z => c13 (k13.mpr z)), if_pos (k15.mp c15), if_neg s0]
      · unfold biR; rw [if_pos (k11.mp c11)]
      · unfold biR; rw [if_neg (fun z => c11 (k11.mpr z)), if_neg (fun z => c12 (k12.mpr z)), if_neg (fun z => c13 (k13.mpr z)), if_pos (k15.mp c15), if_pos s0]
      · unfold biR; rw [if_pos (k11.mp c11)]
      · unfold biR; rw [if_neg (fun z => c11 (k11.mpr z)), if_neg (fun z => c12 (k12.mpr z)), if_pos (k13.mp c13), if_neg (Int32.not_lt.mpr s0)]
      · unfold biR; rw [if_pos (k11.mp c11)]
      · unfold biR; rw [if_neg (fun z => c11 (k11.mpr z)), if_neg (fun z => c12 (k12.mpr z)), if_pos (k13.mp c13), if_pos (Int32.not_le.mp s0)]
      · unfold biR; rw [if_pos (k11.mp c11)]
      · unfold biR; rw [if_neg (fun z => c11 (k11.mpr z)), if_pos (k12.mp c12), if_neg (Int32.not_lt.mpr s0)]
      · unfold biR; rw [if_pos (k11.mp c11)]
      · unfold biR; rw [if_neg (fun z => c11 (k11.mpr z)), if_pos (k12.mp c12), if_pos (Int32.not_le.mp s0)]
      · unfold biR; rw [if_pos (k11.mp c11)]
    · have k14 : k = 14 := (nI_eq (b := 14) kb (by decide)).mp c14
      obtain ⟨y, s, est, ewt⟩ := stR_not k14 ew
      subst est; subst ewt
      obtain ⟨S1, vy⟩ := S.pop
      have hb' : s.length + 1 + (cs.length + 1) ≤ 400 := hb
      have l1 : nI (y :: s).length - 1 = nI s.length := by show nI (s.length + 1) - 1 = _; rw [← nI_1]; grind
      rw [l1]
      refine ⟨_, f17, _, f17, y, aI_of s8 (by omega) (by decide) vy, aW_of (by omega) s8 (by omega) (by decide), ?_⟩
      rw [nI_clamp (by omega)]
      refine e_Mo_holdsLine_117 hl _ _ _ _ _ _ _ ?_
      exact nxt ((1 - y) :: s) _ ew (Nat.le_succ _) S1.push (Fs.rf.set rfl)
    · have k10 : k ≤ 10 := by
        rcases Nat.lt_or_ge 10 k with z | z
        · exact absurd (nI_lt (a := 10) z kb) c10
        · exact z
      have e0 : stR A p (k, n) st = some ((if k < 10 then fcF A p k else nI n) :: st) := by unfold stR; rw [if_pos k10]
      refine ⟨_, f17, _, W.r1, _, rn', W.kd, _, o_fact hl W F hp k10 (nI n), aW_of (by omega) s8 (by omega) (by decide), ?_⟩
      rw [nI_clamp (by omega)]
      refine e_Mo_holdsLine_86 hl _ _ _ _ _ _ _ ?_
      rw [nI_1]
      exact nxt _ _ e0 (Nat.le_refl _) S.push (Fs.rf.set rfl)
theorem o_holdsLine (hl : G.1.stackTraces = false) (hm : G.n0 ≤ m) (W : WldAt h m A) (F : Wf A) (hp : p < nP A) (Lc : LnM (h.2.1 (m + 1)) 394 D) (Cc : CdM (h.2.1 (m + 1)) 394 (cdsD D)) (d12 : D.length ≤ 12) {i : Nat} {l : Ln} (hi : D[i]? = some l) (ok : OkL l) : EvM G m_Mo_holdsLine [.ref m, .int (nI i), .int (nI p)] h (fun o h' => o = .inl (some (.int (if holdC A p l.2.2.1 then 1 else 0))) ∧ WldAt h' m A ∧ Fs (mV8 m) h h') := by
  have i12 : i < 12 := by have := (List.getElem?_eq_some_iff.mp hi).1; omega
  have c4 := Cc.1
  have eo : cdsD D = cdsD (D.take i) ++ (l.2.2.2 ++ cdsD (D.drop (i + 1))) := by
    have := List.take_append_drop (i + 1) D
    rw [← cdsD_1, ← cdsD_app, ← cdsD_app]
    congr 1
    rw [← List.append_assoc, ← take_s hi, this]
  have en : (cdsD (D.take (i + 1))).length = (cdsD (D.take i)).length + l.2.2.2.length := by rw [take_s hi, cdsD_app, cdsD_1, List.length_append]
  have le : (cdsD D).length = (cdsD (D.take i)).length + (l.2.2.2.length + (cdsD (D.drop (i + 1))).length) := by
    have := congrArg List.length eo
    rw [List.length_append, List.length_append] at this; exact this
  have ix : (395 : Int32) + 4 * nI i = nI (395 + 4 * i) := by rw [show (395 : Int32) = nI 395 from rfl, show (4 : Int32) = nI 4 from rfl, pk_mul, nI_add]
  have ix2 : nI (395 + 4 * i) + 2 = nI (394 + 1 + 4 * i + 2) := by rw [show (2 : Int32) = nI 2 from rfl, nI_add, show 395 + 4 * i + 2 = 394 + 1 + 4 * i + 2 by omega]
  have r2 : aI h 101 (m + 1) ((395 : Int32) + 4 * nI i + 2) (nI (cdsD (D.take i)).length) := by
    rw [ix, ix2]; exact aI_of W.1.2.1 (by omega) (by decide) (Lc i l hi).2.2.1
  refine en_Mo_holdsLine h _ _ _ _ (e_Mo_holdsLine_0 hl h _ _ _ _ ⟨_, W.r1, _, r2, ?_⟩)
  rw [ix]
  have loc : ∀ k c, l.2.2.2[k]? = some c → (cdsD D)[(cdsD (D.take i)).length + k]? = some c := fun k c hk => by
    rw [eo, List.getElem?_append_right (by omega), Nat.add_sub_cancel_left, List.getElem?_append_left (List.getElem?_eq_some_iff.mp hk).1]
    exact hk
  have S0 : StA h m [] := fun j y z => by simp at z
  rcases ok A p with e | e
  · refine o_line8 hl hm F hp (h0 := h) (st' := []) Lc Cc d12 hi l.2.2.2 _ [] loc en.symm (by rw [List.length_nil]; omega) (by rw [e]; rfl) W rfl S0 Fs.rf (fun h' W' _ F' => ⟨fun _ => ⟨?_, W', F'⟩, fun z => absurd rfl z⟩)
    have hc : holdC A p l.2.2.1 := by rw [e]; show ((1 : Int32) &&& 1) = 1; decide
    rw [if_pos hc]
  · refine o_line8 hl hm F hp (h0 := h) Lc Cc d12 hi l.2.2.2 _ [] loc en.symm (by rw [List.length_nil]; omega) e W rfl S0 Fs.rf (fun h' W' S' F' => ⟨fun z => absurd z one0, fun _ => ?_⟩)
    have v := S'.pop.2
    refine ⟨_, ⟨W'.kd, W'.1.1.2.2.2.2.2.2.2.2.1⟩, _, aI_of (i := 0) W'.1.2.2.2.2.2.2.2.2.1 (by decide) (by decide) v, fun c => ?_, fun c => ?_⟩
    · refine ⟨?_, W', F'⟩
      rw [if_neg (fun z => c (by rw [if_pos z]))]
    · refine ⟨?_, W', F'⟩
      rw [if_pos (by
        by_cases z : holdC A p l.2.2.1
        · exact z
        · rw [if_neg z] at c; exact absurd c (by decide))]
theorem o_sumOf (hl : G.1.stackTraces = false) (hm : G.n0 ≤ m) (W : WldAt h m A) (F : Wf A) (hp : p < nP A) (Lc : LnM (h.2.1 (m + 1)) 394 D) (Cc : CdM (h.2.1 (m + 1)) 394 (cdsD D)) (d12 : D.length ≤ 12) (c3 : h.2.1 (m + 1) 3 = .int 1) (c394 : h.2.1 (m + 1) 394 = .int (nI D.length)) (ok : ∀ l ∈ D, OkL l) (k : Int32) : EvM G m_Mo_sumOf [.ref m, .int k, .int (nI p)] h (mpostI m h A (lawT D A p k)) := by
  refine en_Mo_sumOf h _ _ _ _ (e_Mo_sumOf_0 hl h _ _ _ _ ?_)
  suffices hh : ∀ d i (g : Hp), i + d = D.length → WldAt g m A → g.2.1 (m + 1) = h.2.1 (m + 1) → Fs (mV8 m) h g → Ev G m_Mo_sumOf 5 [.ref m, .int k, .int (nI p), .int (sumT (D.take i) A p k), .int (nI i)] [] g 0 0 (mpostI m h A (lawT D A p k)) from hh D.length 0 h (Nat.zero_add _) W rfl Fs.rf
  intro d
  induction d with
  | zero =>
    intro i g hi Wg eg Fg
    have hi' : i = D.length := hi
    have r3 : aI g 101 (m + 1) 3 1 := aI_of (i := 3) Wg.1.2.1 (by decide) (by decide) (by rw [eg]; exact c3)
    have r4 : aI g 101 (m + 1) 394 (nI D.length) := aI_of (i := 394) Wg.1.2.1 (by decide) (by decide) (by rw [eg]; exact c394)
    refine e_Mo_sumOf_5 hl g _ _ _ _ _ _ ⟨_, Wg.r1, 1, r3, fun z => absurd rfl z, fun _ => ⟨_, Wg.r1, _, r4, fun _ => ⟨?_, Wg, Fg.mono (fun a j z => Or.inr z)⟩, fun z => absurd (by rw [hi']; exact Int32.le_refl _) z⟩⟩
    rw [hi', List.take_length]; rfl
  | succ d ih =>
    intro i g hi Wg eg Fg
    have hi' : i < D.length := by omega
    obtain ⟨l, el⟩ : ∃ l, D[i]? = some l := ⟨_, List.getElem?_eq_getElem hi'⟩
    have r3 : aI g 101 (m + 1) 3 1 := aI_of (i := 3) Wg.1.2.1 (by decide) (by decide) (by rw [eg]; exact c3)
    have r4 : aI g 101 (m + 1) 394 (nI D.length) := aI_of (i := 394) Wg.1.2.1 (by decide) (by decide) (by rw [eg]; exact c394)
    obtain ⟨b1, b2, -, -⟩ := Lc i l el
    have ix : (395 : Int32) + 4 * nI i = nI (394 + 1 + 4 * i) := by rw [show (395 : Int32) = nI 395 from rfl, show (4 : Int32) = nI 4 from rfl, pk_mul, nI_add]
    have rk : aI g 101 (m + 1) ((395 : Int32) + 4 * nI i) (nI l.1) := by rw [ix]; exact aI_of Wg.1.2.1 (by omega) (by decide) (by rw [eg]; exact b1)
    refine e_Mo_sumOf_5 hl g _ _ _ _ _ _ ⟨_, Wg.r1, 1, r3, fun z => absurd rfl z, fun _ => ⟨_, Wg.r1, _, r4, fun z => absurd z (nI_ge hi' (by omega)), fun _ => ⟨_, Wg.r1, _, rk, fun c => ?_, fun c => ⟨Wg.kd, _, o_holdsLine hl hm Wg F hp (by rw [eg]; exact Lc) (by rw [eg]; exact Cc) d12 el (ok l (List.mem_of_getElem? el)), fun o1 h1 z => Or.inl ⟨_, z.1, fun y => ?_, fun y => ?_⟩⟩⟩⟩⟩
    · rw [nI_1]
      have := ih (i + 1) g (by omega) Wg eg Fg
      rw [sumT_s el, if_neg (fun z => c z.1)] at this
      exact this
    · obtain ⟨-, W1, F1⟩ := z
      rw [nI_1]
      have := ih (i + 1) h1 (by omega) W1 (by rw [← eg]; exact funext fun j => F1.2.2 _ _ (by unfold mV8; omega)) (Fg.tr F1)
      rw [sumT_s el, if_neg (fun z => ite0 y z.2)] at this
      exact this
    · obtain ⟨-, W1, F1⟩ := z
      have e1 : h1.2.1 (m + 1) = h.2.1 (m + 1) := by rw [← eg]; exact funext fun j => F1.2.2 _ _ (by unfold mV8; omega)
      refine ⟨_, W1.r1, nI l.2.1, by rw [ix, nI_1]; exact aI_of W1.1.2.1 (by omega) (by decide) (by rw [e1]; exact b2), ?_⟩
      rw [nI_1]
      have := ih (i + 1) h1 (by omega) W1 e1 (Fg.tr F1)
      rw [sumT_s el, if_pos ⟨c, ite1 y⟩] at this
      exact this
theorem o_lawOk (hl : G.1.stackTraces = false) (hm : G.n0 ≤ m) {c : Nat → Value} (Lc : LnM c 394 D) (Cc : CdM c 394 (cdsD D)) (d12 : D.length ≤ 12) (c3 : c 3 = .int 1) (c394 : c 394 = .int (nI D.length)) (ok : ∀ l ∈ D, OkL l) : MLwC G m c (lawT D) (nI D.length) := by
  refine ⟨fun h' e A W F p k hp _ => ?_, 1, nI D.length, c3, c394, by rw [if_pos rfl]⟩
  have c4 := Cc.1
  have Lc' : LnM (h'.2.1 (m + 1)) 394 D := fun i l hi => by
    have : i < D.length := (List.getElem?_eq_some_iff.mp hi).1
    rw [e _ (by omega), e _ (by omega), e _ (by omega), e _ (by omega)]; exact Lc i l hi
  have Cc' : CdM (h'.2.1 (m + 1)) 394 (cdsD D) := ⟨c4, fun j k n hj => by
    have : j < (cdsD D).length := (List.getElem?_eq_some_iff.mp hj).1
    rw [e _ (by omega), e _ (by omega)]; exact Cc.2 j k n hj⟩
  exact o_sumOf hl hm W F hp Lc' Cc' d12 (by rw [e 3 (by omega)]; exact c3) (by rw [e 394 (by omega)]; exact c394) ok (nI k)
end MEV
