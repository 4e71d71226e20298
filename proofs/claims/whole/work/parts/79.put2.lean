/-! ===== who is put what: the class; the reference ===== -/
abbrev ckC (T : Tt) (A : Vs) (p k t : Nat) : Prop := (k.testBit t = false ∧ lvB A p = true ∧ zN A t ≤ gN T A p) ∧ wN A t + pmA T A (nP A - (p + 1)) (p + 1) (k ||| 2 ^ t) = pmA T A (nP A - p) p k
def ckG (T : Tt) (A : Vs) (p k : Nat) : Nat → Nat → Int32
  | 0, _ => -1
  | d + 1, t => if (k.testBit t = false ∧ lvB A p = true ∧ zN A t ≤ gN T A p) ∧ wN A t + pmA T A (nP A - (p + 1)) (p + 1) (k ||| 2 ^ t) = pmA T A (nP A - p) p k then nI t else ckG T A p k d (t + 1)
def chF (T : Tt) (A : Vs) (p k : Nat) : Int32 := if pmA T A (nP A - (p + 1)) (p + 1) k = pmA T A (nP A - p) p k then -1 else ckG T A p k (nT A) 0
theorem ck_sp {T : Tt} {A : Vs} {p k : Nat} : ∀ d t, (ckG T A p k d t = -1 ∧ ∀ s, t ≤ s → s < t + d → ¬ ckC T A p k s) ∨ ∃ s, t ≤ s ∧ s < t + d ∧ ckG T A p k d t = nI s ∧ ckC T A p k s
  | 0, t => Or.inl ⟨rfl, fun s a b => by omega⟩
  | d + 1, t => by
    unfold ckG
    by_cases c : ckC T A p k t
    · rw [if_pos c]; exact Or.inr ⟨t, Nat.le_refl _, by omega, rfl, c⟩
    · rw [if_neg c]
      rcases ck_sp (T := T) (A := A) (p := p) (k := k) d (t + 1) with ⟨a, b⟩ | ⟨s, a, b, e, f⟩
      · refine Or.inl ⟨a, fun s h1 h2 => ?_⟩
        by_cases q : s = t
        · subst q; exact c
        · exact b s (by omega) (by omega)
      · exact Or.inr ⟨s, by omega, by omega, e, f⟩
theorem pmA_s {T : Tt} {A : Vs} {p k : Nat} (hp : p < nP A) : pmA T A (nP A - p) p k = mx (fun t => !k.testBit t && (lvB A p && decide (zN A t ≤ gN T A p))) (fun t => wN A t + pmA T A (nP A - (p + 1)) (p + 1) (k ||| 2 ^ t)) (nT A) (pmA T A (nP A - (p + 1)) (p + 1) k) := by
  rw [show nP A - p = (nP A - (p + 1)) + 1 by omega]; rfl
theorem cB {T : Tt} {A : Vs} {p k t : Nat} : (!k.testBit t && (lvB A p && decide (zN A t ≤ gN T A p))) = true ↔ k.testBit t = false ∧ lvB A p = true ∧ zN A t ≤ gN T A p := by simp
theorem ch_sp {T : Tt} {A : Vs} {p k : Nat} (hp : p < nP A) : (chF T A p k = -1 ∧ pmA T A (nP A - (p + 1)) (p + 1) k = pmA T A (nP A - p) p k) ∨ ∃ t, t < nT A ∧ chF T A p k = nI t ∧ ckC T A p k t ∧ ¬ pmA T A (nP A - (p + 1)) (p + 1) k = pmA T A (nP A - p) p k ∧ ckG T A p k (nT A) 0 = nI t := by
  unfold chF
  by_cases c : pmA T A (nP A - (p + 1)) (p + 1) k = pmA T A (nP A - p) p k
  · rw [if_pos c]; exact Or.inl ⟨rfl, c⟩
  · rw [if_neg c]
    rcases ck_sp (T := T) (A := A) (p := p) (k := k) (nT A) 0 with ⟨-, a⟩ | ⟨s, a, b, e, f⟩
    · exfalso
      rcases mx_is (c := fun t => !k.testBit t && (lvB A p && decide (zN A t ≤ gN T A p))) (v := fun t => wN A t + pmA T A (nP A - (p + 1)) (p + 1) (k ||| 2 ^ t)) (base := pmA T A (nP A - (p + 1)) (p + 1) k) (nT A) with e | ⟨i, hi, hc, e⟩
      · rw [← pmA_s hp] at e; exact c e.symm
      · rw [← pmA_s hp] at e
        exact a i (Nat.zero_le _) (by omega) ⟨cB.mp hc, e.symm⟩
    · exact Or.inr ⟨s, by omega, e, f, c, e⟩
theorem ch_dead {T : Tt} {A : Vs} {p k : Nat} (hp : p < nP A) (h : lvB A p = false) : chF T A p k = -1 ∧ pmA T A (nP A - (p + 1)) (p + 1) k = pmA T A (nP A - p) p k := by
  rcases ch_sp (T := T) (k := k) hp with e | ⟨t, -, -, c, -, -⟩
  · exact e
  · have := c.1.2.1; rw [h] at this; exact absurd this (by decide)
def ptS (T : Tt) (A : Vs) (p : Nat) (q : Nat × Int32) : Nat × Int32 := (if chF T A p q.1 = -1 then q.1 else q.1 ||| 2 ^ (chF T A p q.1).toNatClampNeg, chF T A p q.1)
def putF (T : Tt) (A : Vs) (j : Nat) : Int32 := (lp (ptS T A) (j + 1) (0, -1)).2
def putQ (T : Tt) (A : Vs) (p : Int32) : Int32 × Int32 := if p = -1 then (0, nI (pmA T A (nP A) 0 0)) else if noF (A 0 0) p = 1 then (1, 0) else (0, putF T A p.toNatClampNeg)
theorem all1 : ∀ n, n ≤ 10 → (1 : Int32) <<< (nI n &&& 31) - 1 = nI (2 ^ n - 1) ∧ (1 : Int32) <<< (nI n &&& 31) = nI (2 ^ n) := by decide +kernel
theorem allF_bt {A : Vs} (B : Bd A) {t : Nat} (ht : t < nT A) : bt (allF A) t = true := by
  have := B.2.2.2
  unfold allF
  rw [B.2.2.1, (all1 _ this).1, ones_bt _ (by omega) _ (by omega), decide_eq_true ht]
theorem flag_hnd {A : Vs} (B : Bd A) : bt (flagF A 5) = hnd (lvB A) 0 (nP A) := by
  have b7 := B.2.1
  funext i
  unfold hnd lvB
  rcases Nat.lt_or_ge i 32 with hi | hi
  · rw [flagF_bt (by omega) hi]
    by_cases c : i < nP A
    · simp [c]
    · simp [c]
  · rw [b_big hi, decide_eq_false (by omega)]; rfl
theorem hnd_rm {lv : Nat → Bool} {p d : Nat} : rmB (hnd lv p (d + 1)) p = hnd lv (p + 1) d := by
  funext i; unfold rmB hnd
  by_cases q : i = p
  · subst q
    rw [decide_eq_false (p := i + 1 ≤ i ∧ i < i + 1 + d) (by omega)]; simp
  · simp only [q, decide_false, Bool.not_false, Bool.and_true]
    congr 1
    exact decide_eq_decide.mpr (by omega)
theorem eg_or {gs : Int32} {k t n : Nat} (ht : t < 32) (eg : ∀ s, s < n → bt gs s = !k.testBit s) : ∀ s, s < n → bt (gs &&& (sh1 t ^^^ -1)) s = !(k ||| 2 ^ t).testBit s := fun s hs => by
  rw [bt_rm ht, or_bit]; unfold rmB; rw [eg s hs]
  by_cases q : t = s
  · subst q; simp
  · simp [q, Ne.symm q]
section PUT2
variable {G : Gx} {h h' h1 : Hp} {x la m v : Nat} {A A' : Vs} {T : Tt} {ln : Int32} {im im' : Option Sv} {pa pa' : Nat → Vs} {r r' : Nat} {b : Nat → Nat} {n : Nat} {fl : Int32} {od : Nat → Nat}
theorem t_choice (hl : G.1.stackTraces = false) (S : MtS h x) (V : VlyAt h v A la) (W : Wf A) (H : HdC h x T A od) {hs gs : Int32} {p k : Nat} (hp : p < nP A) (lv : lvB A p = true) (eh : bt hs = hnd (lvB A) (p + 1) (nP A - (p + 1))) (eg : ∀ t, t < nT A → bt gs t = !k.testBit t) : EvI G m_Ma_leastChoice [.ref (x + 5), .ref v, .int (nI p), .int hs, .int gs, .int (nI (pmA T A (nP A - p) p k))] h (chF T A p k) := by
  have b10 := W.1.2.2.2
  have b7 := W.1.2.1
  have pb := fun d p k => pmA_b (T := T) W d p k
  have m1 := pb (nP A - (p + 1)) (p + 1) k
  have m2 := pb (nP A - p) p k
  unfold chF
  refine en_Ma_leastChoice h _ _ _ _ _ _ _ (e_Ma_leastChoice_0 hl h _ _ _ _ _ _ _ ⟨S.kd, _, t_held' hl S V W H (by omega) eh eg, fun c => ?_, fun c => ⟨?_, rfl⟩⟩)
  · rw [if_neg (fun z => c (by rw [z]))]
    suffices hh : ∀ d t, t + d = nT A → Ev G m_Ma_leastChoice 18 [.ref (x + 5), .ref v, .int (nI p), .int hs, .int gs, .int (nI (pmA T A (nP A - p) p k)), .int (nI t)] [] h 0 0 (fun o h' => o = .inl (some (.int (ckG T A p k d t))) ∧ h' = h) from hh (nT A) 0 (by omega)
    intro d
    induction d with
    | zero =>
      intro t ht
      exact e_Ma_leastChoice_18 hl h _ _ _ _ _ _ _ _ ⟨_, V.f6, fun _ => ⟨rfl, rfl⟩, fun c => absurd (by rw [show t = nT A from ht]; exact W.1.end_T) c⟩
    | succ d ih =>
      intro t ht
      have tn : t < nT A := by omega
      have az := zN_nI W tn
      have aw := wN_nI W tn
      have gp := gN_nI T A p
      have m3 := pb (nP A - (p + 1)) (p + 1) (k ||| 2 ^ t)
      have no : ¬ ckC T A p k t → Ev G m_Ma_leastChoice 18 [.ref (x + 5), .ref v, .int (nI p), .int hs, .int gs, .int (nI (pmA T A (nP A - p) p k)), .int (nI t + 1)] [] h 0 0 (fun o h' => o = .inl (some (.int (ckG T A p k (d + 1) t))) ∧ h' = h) := fun q => by
        rw [nI_1]; unfold ckG; rw [if_neg q]; exact ih (t + 1) (by omega)
      refine e_Ma_leastChoice_18 hl h _ _ _ _ _ _ _ _ ⟨_, V.f6, fun c => absurd c (W.1.in_T tn), fun _ => ⟨fun c => ?_, fun c => ?_⟩⟩
      · exact no (fun q => c ((bit1_t (by omega)).mpr (by rw [eg t tn, q.1.1]; rfl)))
      · have bf : k.testBit t = false := by
          have := (bit1_t (x := gs) (by omega : t < 32)).mp c
          rw [eg t tn] at this
          cases q : k.testBit t <;> simp_all
        refine ⟨_, V.r8, nI (zN A t), by rw [← az.1]; exact V.a7 (by omega), _, S.r0, nI (gN T A p), aI_of S.2.2.1 (by omega) (by decide) (H.1 p hp), fun e => ?_, fun e => ⟨_, V.r7, nI (wN A t), by rw [← aw.1]; exact V.a6 (by omega), S.kd, _, t_held' hl S V W H (by omega) eh (eg_or (by omega) eg), fun f => ?_, fun f => ⟨?_, rfl⟩⟩⟩
        · have := (nI_ltI gp.2 (by omega)).mp e
          exact no (fun q => by have := q.1.2.2; omega)
        · exact no (fun q => f (by rw [nI_add, q.2]))
        · have e' : ¬ gN T A p < zN A t := fun q => e (nI_lt q (by omega))
          rw [nI_add] at f
          have := (nI_eq (by omega) (by omega)).mp f
          unfold ckG; rw [if_pos ⟨⟨bf, lv, by omega⟩, this⟩]
  · rw [if_pos ((nI_eq (by omega) (by omega)).mp c)]
theorem t_most (hl : G.1.stackTraces = false) (hx : G.n0 ≤ x) (C : CT G h x la A T ln im pa r b n fl) (W : Wf A) : EvM G m_Ma_mostHeld [.ref (x + 5), .ref (x + 27)] h (fun o h' => o = .inl (some (.int (nI (pmA T A (nP A) 0 0)))) ∧ Fs (mH x) h h') := by
  refine en_Ma_mostHeld h _ _ _ (e_Ma_mostHeld_0 hl h _ _ _ ⟨C.mt.kd, _, t_readHands hl hx C W, fun o h1 z => Or.inl ?_⟩)
  obtain ⟨z1, F, od, H⟩ := z
  have C1 := C.hd F
  exact ⟨z1, _, C1.V.f5, C1.V.kd, _, v_allThings hl C1.V, C1.mt.kd, _, t_held' hl C1.mt C1.V W H (by omega) (flag_hnd W.1) (fun t ht => by rw [allF_bt W.1 ht, Nat.zero_testBit]; rfl), rfl, F⟩
theorem t_thing (hl : G.1.stackTraces = false) (hx : G.n0 ≤ x) (C : CT G h x la A T ln im pa r b n fl) (W : Wf A) {q : Nat} (hq : q < nP A) : EvM G m_Ma_thingPutTo [.ref (x + 5), .ref (x + 27), .int (nI q)] h (fun o h' => o = .inl (some (.int (putF T A q))) ∧ Fs (mH x) h h') := by
  have b10 := W.1.2.2.2
  have b7 := W.1.2.1
  refine en_Ma_thingPutTo h _ _ _ _ (e_Ma_thingPutTo_0 hl h _ _ _ _ ⟨C.mt.kd, _, t_readHands hl hx C W, fun o h1 z => Or.inl ?_⟩)
  obtain ⟨z1, F, od, H⟩ := z
  have C1 := C.hd F
  refine ⟨z1, _, C1.V.f5, C1.V.kd, _, v_allThings hl C1.V, C1.mt.kd, _, t_held' hl C1.mt C1.V W H (by omega) (flag_hnd W.1) (fun t ht => by rw [allF_bt W.1 ht, Nat.zero_testBit]; rfl), ?_⟩
  refine for_up (Q := fun p => ∀ hs gs : Int32, bt hs = hnd (lvB A) p (nP A - p) → (∀ t, t < nT A → bt gs t = !((lp (ptS T A) p (0, -1)).1).testBit t) → Ev G m_Ma_thingPutTo 32 [.ref (x + 5), .ref (x + 27), .int (nI q), .int hs, .int gs, .int (nI (pmA T A (nP A - p) p (lp (ptS T A) p (0, -1)).1)), .int (lp (ptS T A) p (0, -1)).2, .int (nI p)] [] h1 0 0 (fun o h' => o = .inl (some (.int (putF T A q))) ∧ Fs (mH x) h h')) (n := q + 1) ?_ (fun p hp ih => ?_) 0 (Nat.zero_le _) _ _ (by rw [Nat.sub_zero]; exact flag_hnd W.1) (fun t ht => by rw [allF_bt W.1 ht]; show true = !(0 : Nat).testBit t; rw [Nat.zero_testBit]; rfl)
  · intro hs gs _ _
    exact e_Ma_thingPutTo_32 hl h1 _ _ _ _ _ _ _ _ _ ⟨fun _ => ⟨rfl, F⟩, fun c => absurd (nI_lt (by omega) (by omega)) c⟩
  · intro hs gs eh eg
    have pn : p < nP A := by omega
    have st : ∀ k' c, ptS T A p (lp (ptS T A) p (0, -1)) = (k', c) → ∀ hs' gs' : Int32, bt hs' = hnd (lvB A) (p + 1) (nP A - (p + 1)) → (∀ t, t < nT A → bt gs' t = !k'.testBit t) → Ev G m_Ma_thingPutTo 32 [.ref (x + 5), .ref (x + 27), .int (nI q), .int hs', .int gs', .int (nI (pmA T A (nP A - (p + 1)) (p + 1) k')), .int c, .int (nI p + 1)] [] h1 0 0 (fun o h' => o = .inl (some (.int (putF T A q))) ∧ Fs (mH x) h h') := fun k' c e hs' gs' e1 e2 => by
      have := ih hs' gs' e1 (by show ∀ t, t < nT A → bt gs' t = !((ptS T A p (lp (ptS T A) p (0, -1))).1).testBit t; rw [e]; exact e2)
      rw [show lp (ptS T A) (p + 1) (0, -1) = (k', c) from e] at this
      rw [nI_1]; exact this
    generalize lp (ptS T A) p (0, -1) = s at eg st ⊢
    obtain ⟨k, c0⟩ := s
    have eh' : bt (hs &&& (sh1 p ^^^ -1)) = hnd (lvB A) (p + 1) (nP A - (p + 1)) := by
      rw [bt_rm (by omega), eh, show nP A - p = (nP A - (p + 1)) + 1 by omega, hnd_rm]
    have m2 := pmA_b (T := T) W (nP A - p) p k
    refine e_Ma_thingPutTo_32 hl h1 _ _ _ _ _ _ _ _ _ ⟨fun c => absurd c (nI_nlt (by omega) (by omega)), fun _ => ⟨C1.V.kd, _, v_living hl C1.V W.1 pn, fun c => ⟨fun _ => ?_, fun z => absurd rfl z⟩, fun c => ?_⟩⟩
    · have dd := ch_dead (T := T) (k := k) pn (by unfold lvB; exact decide_eq_false (ite0 c))
      rw [← dd.2]
      exact st k (-1) (by unfold ptS; rw [dd.1, if_pos rfl]) _ _ eh' eg
    · refine ⟨C1.mt.kd, _, t_choice hl C1.mt C1.V W H pn (by unfold lvB; exact decide_eq_true (ite1 c)) eh' eg, fun d => ?_, fun d => ?_⟩
      · rcases ch_sp (T := T) (k := k) pn with ⟨e1, e2⟩ | ⟨t, t1, e1, -, -, -⟩
        · rw [← e2, e1]
          exact st k (-1) (by unfold ptS; rw [e1, if_pos rfl]) _ _ eh' eg
        · rw [e1] at d; exact absurd d (m1_ne (by omega))
      · rcases ch_sp (T := T) (k := k) pn with ⟨e1, e2⟩ | ⟨t, t1, e1, e2, -, -⟩
        · exact absurd e1 d
        · have aw := wN_nI W t1
          rw [e1]
          refine ⟨_, C1.V.r7, nI (wN A t), by rw [← aw.1]; exact C1.V.a6 (by omega), ?_⟩
          rw [← e2.2, pk_sub (by omega), show wN A t + pmA T A (nP A - (p + 1)) (p + 1) (k ||| 2 ^ t) - wN A t = pmA T A (nP A - (p + 1)) (p + 1) (k ||| 2 ^ t) by omega]
          exact st (k ||| 2 ^ t) (nI t) (by unfold ptS; rw [e1, if_neg (m1_ne (by omega)), nI_clamp (by omega)]) _ _ eh' (eg_or (by omega) eg)
theorem mH_Z (F : Fs (mH x) h h') : Fs (xZ x) h h' := F.mono (fun a j z => by unfold mH at z; unfold xZ; omega)
theorem c_put (hl : G.1.stackTraces = false) (hx : G.n0 ≤ x) (C : CT G h x la A T ln im pa r b n fl) (W : Wf A) (p : Int32) : EvM G m_Gr_put [.ref x, .int p] h (CQ G h x la A T ln im pa r b n fl (es3 2 2 2) (putQ T A p)) := by
  unfold putQ
  refine en_Gr_put h _ x _ (e_Gr_put_0 hl h _ x _ ⟨fun c => ?_, fun c => ?_⟩)
  · rw [if_neg c]
    rcases person_cases W.1 p with e | ⟨e, k, hk, rfl⟩
    · rw [if_pos e]
      exact ⟨C.S.kd, _, c_needPerson0 hl C.S.r5 C.V e, by decide, fun o h1 z => Or.inr (CQ_th C Fs.rf z (by decide) rfl)⟩
    · have := W.1.P7 hk
      rw [if_neg (by rw [e]; decide), nI_clamp (by omega)]
      refine ⟨C.S.kd, _, c_needPerson1 hl C.S.r5 C.V e, by decide, fun o h1 z => Or.inl ⟨z.1, ?_⟩⟩
      rw [z.2]
      exact ⟨_, C.S.r4, _, C.S.r5, C.mt.kd, _, t_thing hl hx C W hk, fun o2 h2 y => Or.inl ⟨_, y.1, cans_ok (mH_Z y.2), C.hd y.2⟩⟩
  · rw [if_pos c]
    exact ⟨_, C.S.r4, _, C.S.r5, C.mt.kd, _, t_most hl hx C W, fun o2 h2 y => Or.inl ⟨_, y.1, cans_ok (mH_Z y.2), C.hd y.2⟩⟩
end PUT2
