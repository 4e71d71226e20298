/-! ===== people two by two: the class, the reference ===== -/
theorem two_nP {A : Vs} (B : Bd A) : 2 ^ nP A ≤ 128 := Nat.pow_le_pow_right (n := 2) (by decide) B.2.1
theorem sh7 : ∀ n, n ≤ 7 → (1 : Int32) <<< (nI n &&& 31) = nI (2 ^ n) ∧ (1 : Int32) <<< (nI n &&& 31) - 1 = nI (2 ^ n - 1) := by decide +kernel
theorem PV_0 {A : Vs} : PV A 0 = 0 := by
  unfold PV
  have := ph_top (pr := prA A) (w := wA A) (F := fun i => (0 : Nat).testBit i) (c := 0) (fun j _ => Nat.zero_testBit j) (nP A)
  rw [Nat.zero_add] at this; exact this
theorem full_and {A : Vs} (B : Bd A) : (2 ^ nP A - 1) &&& lmN A = lmN A := by
  rw [Nat.and_comm, Nat.and_two_pow_sub_one_eq_mod, Nat.mod_eq_of_lt (lm_sp B).2.1]
theorem mask_and {s t : Nat} : nI s &&& nI t = nI (s &&& t) := and_nI s t
section PAIR
variable {G : Gx} {h h' h1 : Hp} {x la m v : Nat} {A A' : Vs} {T : Tt} {ln : Int32} {im im' : Option Sv} {pa pa' : Nat → Vs} {r r' : Nat} {b : Nat → Nat} {n : Nat} {fl : Int32}
theorem t_mayPair (hl : G.1.stackTraces = false) (V : VlyAt h v A la) {a o : Nat} (ha : a < 7) (ho : o < 7) : EvI G m_Ma_mayPair [.ref v, .int (nI a), .int (nI o)] h (if prA A a o = true then 1 else 0) := by
  refine en_Ma_mayPair h _ _ _ _ (e_Ma_mayPair_0 hl h _ _ _ _ ⟨_, V.r3, _, V.a3 ha, fun c => ⟨?_, rfl⟩, fun c => ⟨_, V.r3, _, V.a3 ho, fun d => ⟨?_, rfl⟩, fun d => ⟨?_, rfl⟩⟩⟩)
  · rw [if_neg (fun z => (of_decide_eq_true z).1 c)]
  · rw [if_neg (fun z => (of_decide_eq_true z).2 d)]
  · rw [if_pos (by unfold prA; exact decide_eq_true ⟨c, d⟩)]
theorem t_gripsOf (hl : G.1.stackTraces = false) (V : VlyAt h v A la) (W : Wf A) {a o : Nat} (ha : a < nP A) (ho : o < nP A) : EvI G m_Ma_gripsOf [.ref v, .int (nI a), .int (nI o)] h (nI (wA A a o)) := by
  have b7 := W.1.2.1
  refine en_Ma_gripsOf h _ _ _ _ (e_Ma_gripsOf_0 hl h _ _ _ _ ⟨_, V.r2, _, V.a2 (by omega), _, V.r2, _, V.a2 (by omega), ?_, rfl⟩)
  rw [(gpN_nI W ha).1, (gpN_nI W ho).1, nI_add]; rfl
def PtC (h : Hp) (x : Nat) (A : Vs) (n : Nat) : Prop := ∀ s, s < n → h.2.1 (x + 10) s = .int (nI (PV A s))
theorem CT.pr (C : CT G h x la A T ln im pa r b n fl) (F : Fs (xF (x + 10)) h h') : CT G h' x la A T ln im pa r b n fl := C.small F (fun a j z => by unfold xF at z; unfold xR; omega)
theorem t_readPairs (hl : G.1.stackTraces = false) (hx : G.n0 ≤ x) (C : CT G h x la A T ln im pa r b n fl) (W : Wf A) : EvM G m_Ma_readPairs [.ref (x + 5), .ref (x + 27)] h (fun o h' => o = .inl none ∧ Fs (xF (x + 10)) h h' ∧ PtC h' x A (2 ^ nP A)) := by
  have b7 := W.1.2.1
  have t7 := two_nP W.1
  refine en_Ma_readPairs h _ _ _ (e_Ma_readPairs_0 hl h _ _ _ ⟨_, C.mt.r4, aW_of (i := 0) (by omega) C.mt.2.2.2.2.2.2 (by omega : 0 < 128) (by decide), e_Ma_readPairs_7 hl _ _ _ _ ?_⟩)
  refine for_up (Q := fun c => ∀ g : Hp, Fs (xF (x + 10)) h g → PtC g x A (2 ^ c) → Ev G m_Ma_readPairs 9 [.ref (x + 5), .ref (x + 27), .int (nI c), un, un, un] [] g 0 0 (fun o h' => o = .inl none ∧ Fs (xF (x + 10)) h h' ∧ PtC h' x A (2 ^ nP A))) (n := nP A) ?_ (fun c hc ih => ?_) 0 (Nat.zero_le _) _ (Fs.rf.set rfl) (fun s hs => by
    rw [show s = 0 by have : s < 1 := hs; omega, PV_0]; exact hs_eq)
  · intro g F P
    exact e_Ma_readPairs_9 hl g _ _ _ _ ⟨_, (C.pr F).V.f0, fun _ => ⟨rfl, F, P⟩, fun q => absurd W.1.end_P q⟩
  · intro g F P
    have c7 : c < 7 := by omega
    have tc : 2 ^ c ≤ 64 := Nat.pow_le_pow_right (n := 2) (by decide) (by omega : c ≤ 6)
    have t2 : 2 ^ (c + 1) = 2 ^ c + 2 ^ c := by rw [Nat.pow_succ]; omega
    refine e_Ma_readPairs_9 hl g _ _ _ _ ⟨_, (C.pr F).V.f0, fun q => absurd q (W.1.in_P hc), fun _ => ?_⟩
    refine for_up (Q := fun k => ∀ g : Hp, Fs (xF (x + 10)) h g → PtC g x A (2 ^ c + k) → Ev G m_Ma_readPairs 19 [.ref (x + 5), .ref (x + 27), .int (nI c), .int (nI k), un, un] [] g 0 0 (fun o h' => o = .inl none ∧ Fs (xF (x + 10)) h h' ∧ PtC h' x A (2 ^ nP A))) (n := 2 ^ c) ?_ (fun k hk ihk => ?_) 0 (Nat.zero_le _) g F P
    · intro g F P
      refine e_Ma_readPairs_19 hl g _ _ _ _ _ ⟨fun _ => ?_, fun q => absurd (by rw [(sh7 c (by omega)).1]; exact Int32.le_refl _) q⟩
      rw [nI_1]; exact ih g F (by rw [t2]; exact P)
    · intro g F P
      have Cg := C.pr F
      have Sg := Cg.mt
      refine e_Ma_readPairs_19 hl g _ _ _ _ _ ⟨fun q => absurd q (by rw [(sh7 c (by omega)).1]; exact nI_ge hk (by omega)), fun _ => ⟨_, Sg.r4, _, aI_of Sg.2.2.2.2.2.2 (by omega) (by decide) (P k (by omega)), ?_⟩⟩
      refine for_up (Q := fun p => Ev G m_Ma_readPairs 37 [.ref (x + 5), .ref (x + 27), .int (nI c), .int (nI k), .int (nI (mx (fun o => k.testBit o && prA A c o) (fun o => wA A c o + PV A (clr k o)) p (PV A k))), .int (nI p)] [] g 0 0 (fun o h' => o = .inl none ∧ Fs (xF (x + 10)) h h' ∧ PtC h' x A (2 ^ nP A))) (n := c) ?_ (fun p hp ihp => ?_) 0 (Nat.zero_le _)
      · have eo : nI k ||| (1 : Int32) <<< (nI c &&& 31) = nI (2 ^ c + k) := by
          have e1 := Nat.two_pow_add_eq_or_of_lt hk 1
          rw [Nat.mul_one] at e1
          rw [show nI k ||| (1 : Int32) <<< (nI c &&& 31) = nI (k ||| 2 ^ c) from or_sh (by omega), e1, Nat.or_comm]
        refine e_Ma_readPairs_37 hl g _ _ _ _ _ _ _ ⟨fun _ => ⟨_, Sg.r4, by rw [eo]; exact aW_of (by omega) Sg.2.2.2.2.2.2 (by omega) (by decide), ?_⟩, fun q => absurd (Int32.le_refl _) q⟩
        rw [eo, nI_clamp (by omega), ← PV_step hc hk]
        refine e_Ma_readPairs_109 hl _ _ _ _ _ _ ?_
        rw [nI_1]
        refine ihk _ (F.set rfl) (fun s hs => ?_)
        by_cases z : s = 2 ^ c + k
        · subst z; exact hs_eq
        · rw [hs_ne (by omega)]; exact P s (by omega)
      · have pb := fun s => PV_b W s
        have wb : wA A c p ≤ 18 := by
          have g1 := (gpN_nI W hc).2
          have g2 := (gpN_nI W (by omega : p < nP A)).2
          have e : wA A c p = gpN A c + gpN A p := rfl
          omega
        have mb : mx (fun o => k.testBit o && prA A c o) (fun o => wA A c o + PV A (clr k o)) p (PV A k) ≤ 300 := (mx_le p).mpr ⟨by have := pb k; omega, fun o ho _ => by
          have g1 := (gpN_nI W hc).2
          have g2 := (gpN_nI W (by omega : o < nP A)).2
          have e : wA A c o = gpN A c + gpN A o := rfl
          have := pb (clr k o); omega⟩
        have ih' : ∀ y, (if (k.testBit p && prA A c p) = true then max (mx (fun o => k.testBit o && prA A c o) (fun o => wA A c o + PV A (clr k o)) p (PV A k)) (wA A c p + PV A (clr k p)) else mx (fun o => k.testBit o && prA A c o) (fun o => wA A c o + PV A (clr k o)) p (PV A k)) = y → Ev G m_Ma_readPairs 37 [.ref (x + 5), .ref (x + 27), .int (nI c), .int (nI k), .int (nI y), .int (nI p + 1)] [] g 0 0 (fun o h' => o = .inl none ∧ Fs (xF (x + 10)) h h' ∧ PtC h' x A (2 ^ nP A)) := fun y e => by rw [nI_1, ← e]; exact ihp
        refine e_Ma_readPairs_37 hl g _ _ _ _ _ _ _ ⟨fun q => absurd q (nI_ge hp (by omega)), fun _ => ⟨fun q => ?_, fun q => ⟨_, t_mayPair hl Cg.V c7 (by omega), fun e => ?_, fun e => ⟨_, t_gripsOf hl Cg.V W hc (by omega), _, Sg.r4, nI (PV A (clr k p)), ?_, ?_⟩⟩⟩⟩
        · have : ¬ k.testBit p = true := fun z => q ((bit1_t (by omega)).mpr (by rw [bt_nI (by omega)]; exact z))
          exact ih' _ (by rw [if_neg (by simp [this])])
        · have : ¬ prA A c p = true := ite0 e
          exact ih' _ (by rw [if_neg (by simp [this])])
        · rw [show nI k &&& ((1 : Int32) <<< (nI p &&& 31) ^^^ -1) = nI (clr k p) from clr_nI (by omega)]
          have := clr_lt (p := p) hk
          exact aI_of Sg.2.2.2.2.2.2 (by omega) (by decide) (P _ (by omega))
        · have q1 : k.testBit p = true := by
            have := (bit1_t (x := nI k) (by omega : p < 32)).mp q
            rw [bt_nI (by omega)] at this; exact this
          have := pb (clr k p)
          rw [nI_add, imax_nI (by omega) (by omega)]
          exact ih' _ (by rw [if_pos (by simp [q1, ite1 e])])
theorem t_mostPaired (hl : G.1.stackTraces = false) (hx : G.n0 ≤ x) (C : CT G h x la A T ln im pa r b n fl) (W : Wf A) : EvM G m_Ma_mostPaired [.ref (x + 5), .ref (x + 27)] h (fun o h' => o = .inl (some (.int (nI (RV A (2 ^ nP A - 1))))) ∧ Fs (xF (x + 10)) h h') := by
  obtain ⟨l1, l2, -⟩ := lm_sp W.1
  have t7 := two_nP W.1
  refine en_Ma_mostPaired h _ _ _ (e_Ma_mostPaired_0 hl h _ _ _ ⟨C.mt.kd, _, t_readPairs hl hx C W, fun o h1 z => Or.inl ?_⟩)
  obtain ⟨z1, F, P⟩ := z
  have C1 := C.pr F
  refine ⟨z1, _, C1.mt.r4, nI (lmN A), by rw [← l1]; exact C1.V.f5, _, aI_of C1.mt.2.2.2.2.2.2 (by omega) (by decide) (P _ l2), ?_, F⟩
  unfold RV; rw [full_and W.1]
theorem t_leastP (hl : G.1.stackTraces = false) (S : MtS h x) (V : VlyAt h v A la) (W : Wf A) (P : PtC h x A (2 ^ nP A)) {p s : Nat} (hp : p < nP A) (hs : s < 2 ^ nP A) : EvI G m_Ma_leastPartner [.ref (x + 5), .ref v, .int (nI p), .int (nI (s &&& lmN A))] h (lpF A p s) := by
  obtain ⟨l1, l2, l3⟩ := lm_sp W.1
  have b7 := W.1.2.1
  have t7 := two_nP W.1
  have al : ∀ t, t < 2 ^ nP A → t &&& lmN A < 2 ^ nP A := fun t ht => Nat.and_lt_two_pow _ l2
  have tb : ∀ t, t < 2 ^ nP A → aI h 101 (x + 10) (nI (t &&& lmN A)) (nI (RV A t)) := fun t ht => by
    have := al t ht
    exact aI_of S.2.2.2.2.2.2 (by omega) (by decide) (P _ this)
  have ec : ∀ t q, q < 32 → nI (t &&& lmN A) &&& ((1 : Int32) <<< (nI q &&& 31) ^^^ -1) = nI (clr t q &&& lmN A) := fun t q hq => by
    rw [← and_clr]; exact clr_nI hq
  have rb := fun t => PV_b W (t &&& lmN A)
  have cs := clr_lt (p := p) hs
  rw [show lpF A p s = lpF A p s from rfl]
  refine en_Ma_leastPartner h _ _ _ _ _ (e_Ma_leastPartner_0 hl h _ _ _ _ _ ?_)
  rw [ec s p (by omega)]
  refine ⟨fun c => ⟨?_, rfl⟩, fun c => ⟨_, S.r4, _, tb _ cs, _, S.r4, _, tb _ hs, fun d => ?_, fun d => ⟨?_, rfl⟩⟩⟩
  · have a1 := al _ cs
    have a2 := al _ hs
    have c' := (nI_eq (by omega) (by omega)).mp c
    unfold lpF; rw [if_pos (by unfold RV; rw [c'])]
  · have d' : ¬ RV A (clr s p) = RV A s := fun z => d (by rw [z])
    unfold lpF; rw [if_neg d']
    have lv : lvB A p = true := by
      cases q : lvB A p with
      | true => rfl
      | false => exact absurd (RV_same W.1 q) d'
    suffices hh : ∀ e q, q + e = nP A → Ev G m_Ma_leastPartner 36 [.ref (x + 5), .ref v, .int (nI p), .int (nI (s &&& lmN A)), .int (nI (clr s p &&& lmN A)), .int (nI q)] [] h 0 0 (fun o h' => o = .inl (some (.int (lpG A p s e q))) ∧ h' = h) from hh (nP A) 0 (by omega)
    intro e
    induction e with
    | zero =>
      intro q hq
      exact e_Ma_leastPartner_36 hl h _ _ _ _ _ _ _ ⟨_, V.f0, fun _ => ⟨rfl, rfl⟩, fun c => absurd (by rw [show q = nP A from hq]; exact W.1.end_P) c⟩
    | succ e ih =>
      intro q hq
      have qn : q < nP A := by omega
      have cq := clr_lt (p := q) cs
      have fb : (clr s p &&& lmN A).testBit q = ((clr s p).testBit q && lvB A q) := by rw [Nat.testBit_and, l3, decide_eq_true qn, Bool.true_and]
      have no : ¬ lpC A p s q → Ev G m_Ma_leastPartner 36 [.ref (x + 5), .ref v, .int (nI p), .int (nI (s &&& lmN A)), .int (nI (clr s p &&& lmN A)), .int (nI q + 1)] [] h 0 0 (fun o h' => o = .inl (some (.int (lpG A p s (e + 1) q))) ∧ h' = h) := fun z => by
        rw [nI_1]; unfold lpG; rw [if_neg z]; exact ih (q + 1) (by omega)
      refine e_Ma_leastPartner_36 hl h _ _ _ _ _ _ _ ⟨_, V.f0, fun c => absurd c (W.1.in_P qn), fun _ => ⟨fun c => ?_, fun c => ⟨_, t_mayPair hl V (by omega) (by omega), fun d => ?_, fun d => ⟨_, t_gripsOf hl V W hp qn, _, S.r4, nI (RV A (clr (clr s p) q)), by rw [ec _ q (by omega)]; exact tb _ cq, _, S.r4, _, tb _ hs, fun f => ?_, fun f => ⟨?_, rfl⟩⟩⟩⟩⟩
      · exact no (fun z => c ((bit1_t (by omega)).mpr (by rw [bt_nI (by omega), fb, z.1.1, z.1.2.2.1]; rfl)))
      · exact no (fun z => ite0 d z.1.2.2.2)
      · exact no (fun z => f (by rw [nI_add, z.2]))
      · have c' := (bit1_t (x := nI (clr s p &&& lmN A)) (by omega : q < 32)).mp c
        rw [bt_nI (by omega), fb, Bool.and_eq_true] at c'
        have wb : wA A p q ≤ 18 := by
          have g1 := (gpN_nI W hp).2
          have g2 := (gpN_nI W qn).2
          have e : wA A p q = gpN A p + gpN A q := rfl
          omega
        rw [nI_add] at f
        have r1 : RV A (clr (clr s p) q) ≤ 200 := rb _
        have r2 : RV A s ≤ 200 := rb _
        have f' := (nI_eq (by omega) (by omega)).mp f
        unfold lpG; rw [if_pos ⟨⟨c'.1, lv, c'.2, ite1 d⟩, f'⟩]
  · have r1 : RV A (clr s p) ≤ 200 := rb _
    have r2 : RV A s ≤ 200 := rb _
    unfold lpF; rw [if_pos ((nI_eq (by omega) (by omega)).mp d)]
theorem lpF_no {p s : Nat} (h : ¬ s.testBit p = true) : lpF A p s = -1 := by unfold lpF; rw [clr_no h, if_pos rfl]
theorem nxS_lt {p s k : Nat} (hs : s < 2 ^ k) : nxS A p s < 2 ^ k := by
  unfold nxS
  split
  · exact clr_lt hs
  · exact clr_lt (clr_lt hs)
/-- who isn't found stays -/
theorem nxS_bit {p s j : Nat} (B : Bd A) (hp : p < nP A) (hs : s.testBit p = true) (hj : s.testBit j = true) (h1 : p ≠ j) (h2 : ¬ lpF A p s = nI j) : (nxS A p s).testBit j = true := by
  have b7 := B.2.1
  have c1 : (clr s p).testBit j = true := by rw [clr_bit, rmB_t]; exact ⟨hj, Ne.symm h1⟩
  unfold nxS
  rcases lpF_sp B hp hs with ⟨e, -⟩ | ⟨q, q1, e, -⟩
  · rw [if_pos e]; exact c1
  · rw [e, if_neg (m1_ne (by omega)), nI_clamp (by omega), clr_bit, rmB_t]
    exact ⟨c1, fun z => h2 (by rw [e, z])⟩
theorem nxS_low {p s : Nat} (B : Bd A) (hp : p < nP A) (hs : s.testBit p = true) (hl : ∀ i, i < p → s.testBit i = false) : ∀ i, i < p + 1 → (nxS A p s).testBit i = false := by
  have b7 := B.2.1
  have c1 : ∀ i, i < p + 1 → (clr s p).testBit i = false := fun i hi => by
    rw [clr_bit]; unfold rmB
    by_cases z : i = p
    · subst z; simp
    · simp only; rw [hl i (by omega)]; rfl
  intro i hi
  unfold nxS
  split
  · exact c1 i hi
  · rw [clr_bit]; unfold rmB; simp only; rw [c1 i hi]; rfl
theorem t_partner (hl : G.1.stackTraces = false) (hx : G.n0 ≤ x) (C : CT G h x la A T ln im pa r b n fl) (W : Wf A) {j : Nat} (hj : j < nP A) : EvM G m_Ma_partner [.ref (x + 5), .ref (x + 27), .int (nI j)] h (fun o h' => o = .inl (some (.int (ptn A j (j + 1) 0 (2 ^ nP A - 1)))) ∧ Fs (xF (x + 10)) h h') := by
  obtain ⟨l1, l2, l3⟩ := lm_sp W.1
  have b7 := W.1.2.1
  have t7 := two_nP W.1
  refine en_Ma_partner h _ _ _ _ (e_Ma_partner_0 hl h _ _ _ _ ⟨C.mt.kd, _, t_readPairs hl hx C W, fun o h1 z => Or.inl ?_⟩)
  obtain ⟨z1, F, P⟩ := z
  have C1 := C.pr F
  refine ⟨z1, nI ((2 ^ nP A - 1) &&& lmN A), by rw [full_and W.1, ← l1]; exact C1.V.f5, ?_⟩
  suffices hh : ∀ d p s, p + d = j + 1 → s < 2 ^ nP A → s.testBit j = true → Ev G m_Ma_partner 13 [.ref (x + 5), .ref (x + 27), .int (nI j), .int (nI (s &&& lmN A)), .int (nI p), un] [] h1 0 0 (fun o h' => o = .inl (some (.int (ptn A j d p s))) ∧ Fs (xF (x + 10)) h h') from hh (j + 1) 0 _ (by omega) (Nat.sub_lt (Nat.two_pow_pos _) (by decide)) (by rw [Nat.testBit_two_pow_sub_one]; exact decide_eq_true hj)
  intro d
  induction d with
  | zero =>
    intro p s hp _ _
    exact e_Ma_partner_13 hl h1 _ _ _ _ _ _ ⟨fun _ => ⟨rfl, F⟩, fun c => absurd (nI_lt (by omega) (by omega)) c⟩
  | succ d ih =>
    intro p s hp hs hb
    have pn : p < nP A := by omega
    have ec : ∀ t q, q < 32 → nI (t &&& lmN A) &&& ((1 : Int32) <<< (nI q &&& 31) ^^^ -1) = nI (clr t q &&& lmN A) := fun t q hq => by
      rw [← and_clr]; exact clr_nI hq
    unfold ptn
    by_cases sb : s.testBit p = true
    · rw [if_pos sb]
      refine e_Ma_partner_13 hl h1 _ _ _ _ _ _ ⟨fun c => absurd c (nI_nlt (by omega) (by omega)), fun _ => ⟨C1.mt.kd, _, t_leastP hl C1.mt C1.V W P pn hs, fun c => ⟨fun q => absurd c q, fun _ => ⟨?_, F⟩⟩, fun c => ?_⟩⟩
      · rw [if_pos ((nI_eq (by omega) (by omega)).mp c)]
      · have c' : ¬ p = j := fun z => c (by rw [z])
        rw [if_neg c']
        refine ⟨fun q => ?_, fun q => ⟨fun _ => ⟨by rw [if_pos q], F⟩, fun z => absurd z c⟩⟩
        rw [if_neg q]
        have nb := nxS_bit W.1 pn sb hb c' q
        have ih' := ih (p + 1) (nxS A p s) (by omega) (nxS_lt hs) nb
        refine ⟨fun e => ?_, fun e => ?_⟩
        · rw [nI_1, ec s p (by omega)]
          have en : nxS A p s = clr s p := by unfold nxS; rw [if_pos e]
          rw [en] at ih' ⊢; exact ih'
        · rcases lpF_sp W.1 pn sb with ⟨e1, -⟩ | ⟨q', q1, e1, -⟩
          · exact absurd e1 e
          · have en : nxS A p s = clr (clr s p) q' := by unfold nxS; rw [e1, if_neg (m1_ne (by omega)), nI_clamp (by omega)]
            rw [en] at ih' ⊢
            rw [nI_1, ec s p (by omega), e1, ec _ q' (by omega)]; exact ih'
    · rw [if_neg sb]
      have pj : p ≠ j := fun z => sb (z ▸ hb)
      refine e_Ma_partner_13 hl h1 _ _ _ _ _ _ ⟨fun c => absurd c (nI_nlt (by omega) (by omega)), fun _ => ⟨C1.mt.kd, _, t_leastP hl C1.mt C1.V W P pn hs, fun c => absurd ((nI_eq (by omega) (by omega)).mp c) pj, fun c => ?_⟩⟩
      rw [lpF_no sb]
      refine ⟨fun _ => ⟨fun _ => ?_, fun z => absurd rfl z⟩, fun q => absurd q.symm (m1_ne (by omega))⟩
      rw [nI_1, ec s p (by omega), clr_no sb]; exact ih (p + 1) s (by omega) hs hb
theorem xF_Z (F : Fs (xF (x + 10)) h h') : Fs (xZ x) h h' := F.mono (fun a j z => by unfold xF at z; unfold xZ; omega)
theorem c_pairs (hl : G.1.stackTraces = false) (hx : G.n0 ≤ x) (C : CT G h x la A T ln im pa r b n fl) (W : Wf A) (p : Int32) : EvM G m_Gr_pairs [.ref x, .int p] h (CQ G h x la A T ln im pa r b n fl (es3 2 2 2) (prsQ A p)) := by
  unfold prsQ
  refine en_Gr_pairs h _ x _ (e_Gr_pairs_0 hl h _ x _ ⟨fun c => ?_, fun c => ?_⟩)
  · rw [if_neg c]
    rcases person_cases W.1 p with e | ⟨e, k, hk, rfl⟩
    · rw [if_pos e]
      exact ⟨C.S.kd, _, c_needPerson0 hl C.S.r5 C.V e, by decide, fun o h1 z => Or.inr (CQ_th C Fs.rf z (by decide) rfl)⟩
    · have := W.1.P7 hk
      rw [if_neg (by rw [e]; decide), nI_clamp (by omega)]
      refine ⟨C.S.kd, _, c_needPerson1 hl C.S.r5 C.V e, by decide, fun o h1 z => Or.inl ⟨z.1, ?_⟩⟩
      rw [z.2]
      exact ⟨_, C.S.r4, _, C.S.r5, C.mt.kd, _, t_partner hl hx C W hk, fun o2 h2 y => Or.inl ⟨_, y.1, cans_ok (xF_Z y.2), C.pr y.2⟩⟩
  · rw [if_pos c]
    exact ⟨_, C.S.r4, _, C.S.r5, C.mt.kd, _, t_mostPaired hl hx C W, fun o2 h2 y => Or.inl ⟨_, y.1, cans_ok (xF_Z y.2), C.pr y.2⟩⟩
/-! the reference -/
def RtC (h : Hp) (m : Nat) (A : Vs) (n : Nat) : Prop := ∀ s, s < n → h.2.1 (m + 15) s = .int (nI (RV A s))
theorem o_first (hl : G.1.stackTraces = false) {s p : Nat} (hs : s < 128) (hp : p < 7) (sb : s.testBit p = true) (lo : ∀ i, i < p → s.testBit i = false) : EvI G m_Mo_firstOf [.int (nI s)] h (nI p) := by
  have h0 : s ≠ 0 := fun z => by rw [z, Nat.zero_testBit] at sb; cases sb
  have := j_ntz (G := G) (h := h) hl (by omega : s < 1024) h0
  rw [tz_low s hs p hp sb lo] at this
  exact en_Mo_firstOf h _ _ (e_Mo_firstOf_0 hl h _ _ ⟨_, this, rfl, rfl⟩)
theorem o_canPair (hl : G.1.stackTraces = false) (W : WldAt h m A) {a o : Nat} (ha : a < 7) (ho : o < 7) : EvI G m_Mo_canPair [.ref m, .int (nI a), .int (nI o)] h (if lvB A a = true ∧ lvB A o = true ∧ prA A a o = true then 1 else 0) := by
  refine en_Mo_canPair h _ _ _ _ (e_Mo_canPair_0 hl h _ _ _ _ ⟨W.kd, _, o_lives hl W ha, fun c => ⟨?_, rfl⟩, fun c => ⟨W.kd, _, o_lives hl W ho, fun d => ⟨?_, rfl⟩, fun d => ⟨W.kd, _, o_of hl W ha (f := 2) (by decide), fun e => ⟨?_, rfl⟩, fun e => ⟨W.kd, _, o_of hl W ho (f := 2) (by decide), fun f => ⟨?_, rfl⟩, fun f => ⟨?_, rfl⟩⟩⟩⟩⟩)
  · rw [if_neg (fun z => ite0 c (of_decide_eq_true z.1))]
  · rw [if_neg (fun z => ite0 d (of_decide_eq_true z.2.1))]
  · rw [if_neg (fun z => (of_decide_eq_true z.2.2).1 e)]
  · rw [if_neg (fun z => (of_decide_eq_true z.2.2).2 f)]
  · rw [if_pos ⟨decide_eq_true (ite1 c), decide_eq_true (ite1 d), decide_eq_true ⟨e, f⟩⟩]
theorem o_pairedBy0 (hl : G.1.stackTraces = false) (W : WldAt h m A) (F : Wf A) {s p N : Nat} (hs : s < 2 ^ nP A) (hp : p < nP A) (sb : s.testBit p = true) (lo : ∀ i, i < p → s.testBit i = false) (R : RtC h m A N) (hN : clr s p < N) : EvI G m_Mo_pairedBy [.ref m, .int (nI s), .int (-1)] h (nI (RV A (clr s p))) := by
  have b7 := F.1.2.1
  have t7 := two_nP F.1
  have cs := clr_lt (p := p) hs
  refine en_Mo_pairedBy h _ _ _ _ (e_Mo_pairedBy_0 hl h _ _ _ _ ⟨_, o_first hl (by omega) (by omega) sb lo, fun c => absurd rfl c, fun _ => ⟨_, W.r24, nI (RV A (clr s p)), ?_, rfl, rfl⟩⟩)
  rw [show nI s &&& ((1 : Int32) <<< (nI p &&& 31) ^^^ -1) = nI (clr s p) from clr_nI (by omega)]
  exact aI_of W.s15 (by omega) (by decide) (R _ hN)
theorem o_pairedBy1 (hl : G.1.stackTraces = false) (W : WldAt h m A) (F : Wf A) {s p q N : Nat} (hs : s < 2 ^ nP A) (hp : p < nP A) (hq : q < nP A) (sb : s.testBit p = true) (lo : ∀ i, i < p → s.testBit i = false) (R : RtC h m A N) (hN : clr (clr s p) q < N) : EvI G m_Mo_pairedBy [.ref m, .int (nI s), .int (nI q)] h (if (clr s p).testBit q = true ∧ lvB A p = true ∧ lvB A q = true ∧ prA A p q = true then nI (wA A p q + RV A (clr (clr s p) q)) else -1) := by
  have b7 := F.1.2.1
  have t7 := two_nP F.1
  have cs := clr_lt (p := p) hs
  have cq := clr_lt (p := q) cs
  have gp := gpN_nI F hp
  have gq := gpN_nI F hq
  have e1 : nI s &&& ((1 : Int32) <<< (nI p &&& 31) ^^^ -1) = nI (clr s p) := clr_nI (by omega)
  have e2 : nI (clr s p) &&& ((1 : Int32) <<< (nI q &&& 31) ^^^ -1) = nI (clr (clr s p) q) := clr_nI (by omega)
  refine en_Mo_pairedBy h _ _ _ _ (e_Mo_pairedBy_0 hl h _ _ _ _ ⟨_, o_first hl (by omega) (by omega) sb lo, fun _ => ?_, fun c => absurd c (m1_ne (by omega))⟩)
  rw [e1, e2]
  refine ⟨_, o_has hl _ _, fun c => ⟨?_, rfl⟩, fun c => ⟨W.kd, _, o_canPair hl W (by omega) (by omega), fun d => ⟨?_, rfl⟩, fun d => ⟨W.kd, nI (gpN A p), by rw [← gp.1]; exact o_of hl W (by omega) (f := 1) (by decide), W.kd, nI (gpN A q), by rw [← gq.1]; exact o_of hl W (by omega) (f := 1) (by decide), _, W.r24, nI (RV A (clr (clr s p) q)), aI_of W.s15 (by omega) (by decide) (R _ hN), ?_, rfl⟩⟩⟩
  · rw [if_neg (fun z => ite0 c ((bit1_t (by omega)).mpr (by rw [bt_nI (by omega)]; exact z.1)))]
  · rw [if_neg (fun z => ite0 d z.2)]
  · have c' := (bit1_t (x := nI (clr s p)) (by omega : q < 32)).mp (ite1 c)
    rw [bt_nI (by omega)] at c'
    rw [if_pos ⟨c', ite1 d⟩, nI_add, nI_add]; rfl
theorem clr_le {s p : Nat} : clr s p ≤ s := by
  have e : s &&& clr s p = clr s p := Nat.eq_of_testBit_eq (fun j => by
    rw [Nat.testBit_and, clr_bit]; unfold rmB; simp only
    cases s.testBit j <;> simp)
  rw [← e]; exact Nat.and_le_left
theorem clr_less {s p : Nat} (h : s.testBit p = true) : clr s p < s := by
  refine Nat.lt_of_le_of_ne clr_le (fun z => ?_)
  have : (clr s p).testBit p = false := by rw [clr_bit]; unfold rmB; simp
  rw [z, h] at this; cases this
theorem low_ex {s n : Nat} (h0 : s ≠ 0) (hs : s < 2 ^ n) : ∃ p, p < n ∧ s.testBit p = true ∧ ∀ i, i < p → s.testBit i = false := by
  have : ∀ d k, k + d = n → (∀ i, i < k → s.testBit i = false) → ∃ p, p < n ∧ s.testBit p = true ∧ ∀ i, i < p → s.testBit i = false := by
    intro d
    induction d with
    | zero =>
      intro k hk lo
      exact absurd (Nat.eq_of_testBit_eq (fun i => by
        rw [Nat.zero_testBit]
        by_cases z : i < k
        · exact lo i z
        · exact Nat.testBit_lt_two_pow (Nat.lt_of_lt_of_le hs (Nat.pow_le_pow_right (by decide) (by omega))))) h0
    | succ d ih =>
      intro k hk lo
      cases q : s.testBit k with
      | true => exact ⟨k, by omega, q, lo⟩
      | false => exact ih (k + 1) (by omega) (fun i hi => by
          by_cases z : i = k
          · subst z; exact q
          · exact lo i (by omega))
  exact this n 0 (by omega) (fun i hi => by omega)
theorem o_laysPairs (hl : G.1.stackTraces = false) (hm : G.n0 ≤ m) (W : WldAt h m A) (F : Wf A) : EvM G m_Mo_laysPairs [.ref m] h (fun o h' => o = .inl none ∧ WldAt h' m A ∧ Fs (xF (m + 15)) h h' ∧ RtC h' m A (2 ^ nP A)) := by
  have b7 := F.1.2.1
  have t7 := two_nP F.1
  have all : (1 : Int32) <<< (A 0 0 &&& 31) = nI (2 ^ nP A) := by rw [F.1.1]; exact (sh7 _ b7).1
  have R0 : RV A 0 = 0 := by unfold RV; rw [Nat.zero_and]; exact PV_0
  refine en_Mo_laysPairs h _ _ (e_Mo_laysPairs_0 hl h _ _ ⟨_, W.r24, aW_of (i := 0) (by omega) W.s15 (by omega : 0 < 128) (by decide), e_Mo_laysPairs_7 hl _ _ _ ?_⟩)
  suffices hh : ∀ d s (g : Hp), s + d = 2 ^ nP A → 1 ≤ s → WldAt g m A → Fs (xF (m + 15)) h g → RtC g m A s → Ev G m_Mo_laysPairs 9 [.ref m, .int (nI s), un, un] [] g 0 0 (fun o h' => o = .inl none ∧ WldAt h' m A ∧ Fs (xF (m + 15)) h h' ∧ RtC h' m A (2 ^ nP A)) from hh (2 ^ nP A - 1) 1 _ (by have := Nat.two_pow_pos (nP A); omega) (Nat.le_refl _) (W.beside (Or.inr (Or.inr (Or.inl rfl)))) (Fs.rf.set rfl) (fun s hs => by
    rw [show s = 0 by omega, R0]; exact hs_eq)
  intro d
  induction d with
  | zero =>
    intro s g hs _ Wg Fg R
    rw [show s = 2 ^ nP A by omega] at R ⊢
    exact e_Mo_laysPairs_9 hl g _ _ _ ⟨Wg.kd, _, o_people hl Wg, fun _ => ⟨rfl, Wg, Fg, R⟩, fun c => absurd (by rw [all]; exact Int32.le_refl _) c⟩
  | succ d ih =>
    intro s g hs h1 Wg Fg R
    have sl : s < 2 ^ nP A := by omega
    obtain ⟨p, pn, sb, lo⟩ := low_ex (by omega) sl
    have cp := clr_less sb
    have rb := fun t => PV_b F (t &&& lmN A)
    refine e_Mo_laysPairs_9 hl g _ _ _ ⟨Wg.kd, _, o_people hl Wg, fun c => absurd c (by rw [all]; exact nI_ge sl (by omega)), fun _ => ?_⟩
    refine e_Mo_laysPairs_23 hl g _ _ _ _ _ ⟨Wg.kd, _, o_people hl Wg, fun c => absurd c (by rw [F.1.1]; exact fun q => absurd (Int32.le_trans (nI_pos' (by omega)) q) (by decide)), fun _ => ⟨Wg.kd, _, o_pairedBy0 hl Wg F sl pn sb lo R cp, ?_⟩⟩
    rw [show imax 0 (nI (RV A (clr s p))) = nI (RV A (clr s p)) by
      have : RV A (clr s p) ≤ 200 := rb _
      rw [show (0 : Int32) = nI 0 from rfl, imax_nI (by decide) (by omega), Nat.max_eq_right (Nat.zero_le _)], show (-1 : Int32) + 1 = nI 0 from rfl]
    refine for_up (Q := fun q => Ev G m_Mo_laysPairs 23 [.ref m, .int (nI s), .int (nI (mx (fun o => (clr s p).testBit o && (lvB A p && (lvB A o && prA A p o))) (fun o => wA A p o + RV A (clr (clr s p) o)) q (RV A (clr s p)))), .int (nI q)] [] g 0 0 (fun o h' => o = .inl none ∧ WldAt h' m A ∧ Fs (xF (m + 15)) h h' ∧ RtC h' m A (2 ^ nP A))) (n := nP A) ?_ (fun q hq ihq => ?_) 0 (Nat.zero_le _)
    · rw [← RV_step F.1 pn sb]
      refine e_Mo_laysPairs_23 hl g _ _ _ _ _ ⟨Wg.kd, _, o_people hl Wg, fun _ => ⟨_, Wg.r24, aW_of (by omega) Wg.s15 (by omega) (by decide), ?_⟩, fun c => absurd F.1.end_P c⟩
      rw [nI_clamp (by omega)]
      refine e_Mo_laysPairs_55 hl _ _ _ _ ?_
      rw [nI_1]
      refine ih (s + 1) _ (by omega) (by omega) (Wg.beside (Or.inr (Or.inr (Or.inl rfl)))) (Fg.set rfl) (fun s' hs' => ?_)
      by_cases z : s' = s
      · subst z; exact hs_eq
      · rw [hs_ne (by omega)]; exact R s' (by omega)
    · have wb : ∀ o, o < nP A → wA A p o ≤ 18 := fun o ho => by
        have g1 := (gpN_nI F pn).2
        have g2 := (gpN_nI F ho).2
        have e : wA A p o = gpN A p + gpN A o := rfl
        omega
      have mb : mx (fun o => (clr s p).testBit o && (lvB A p && (lvB A o && prA A p o))) (fun o => wA A p o + RV A (clr (clr s p) o)) q (RV A (clr s p)) ≤ 300 := (mx_le q).mpr ⟨by have : RV A (clr s p) ≤ 200 := rb _; omega, fun o ho _ => by
        have := wb o (by omega)
        have : RV A (clr (clr s p) o) ≤ 200 := rb _
        omega⟩
      have cN : clr (clr s p) q < s := Nat.lt_of_le_of_lt clr_le cp
      refine e_Mo_laysPairs_23 hl g _ _ _ _ _ ⟨Wg.kd, _, o_people hl Wg, fun c => absurd c (F.1.in_P hq), fun _ => ⟨Wg.kd, _, o_pairedBy1 hl Wg F sl pn hq sb lo R cN, ?_⟩⟩
      rw [nI_1]
      have es : mx (fun o => (clr s p).testBit o && (lvB A p && (lvB A o && prA A p o))) (fun o => wA A p o + RV A (clr (clr s p) o)) (q + 1) (RV A (clr s p)) = if ((clr s p).testBit q && (lvB A p && (lvB A q && prA A p q))) = true then max (mx (fun o => (clr s p).testBit o && (lvB A p && (lvB A o && prA A p o))) (fun o => wA A p o + RV A (clr (clr s p) o)) q (RV A (clr s p))) (wA A p q + RV A (clr (clr s p) q)) else mx (fun o => (clr s p).testBit o && (lvB A p && (lvB A o && prA A p o))) (fun o => wA A p o + RV A (clr (clr s p) o)) q (RV A (clr s p)) := rfl
      rw [es] at ihq
      by_cases c : (clr s p).testBit q = true ∧ lvB A p = true ∧ lvB A q = true ∧ prA A p q = true
      · have := wb q hq
        have : RV A (clr (clr s p) q) ≤ 200 := rb _
        rw [if_pos (by simp only [Bool.and_eq_true]; exact c)] at ihq
        rw [if_pos c, imax_nI (by omega) (by omega)]; exact ihq
      · rw [if_neg (by simp only [Bool.and_eq_true]; exact c)] at ihq
        rw [if_neg c, show ∀ k, k ≤ 300 → imax (nI k) (-1) = nI k from fun k hk => by unfold imax; rw [if_neg (fun q => absurd (Int32.lt_trans q (by decide : (-1 : Int32) < 0)) (nI_pos (by omega)))]]
        · exact ihq
        · exact mb
theorem MT.pr (X : MT G h m A T ln im pa r b n fl) (W : WldAt h' m A) (F : Fs (xF (m + 15)) h h') : MT G h' m A T ln im pa r b n fl ∧ Fs (mZ m) h h' ∧ h'.2.1 m 0 = h.2.1 m 0 :=
  ⟨X.rd W (F.mono (fun a j z => by unfold xF at z; unfold mU; omega)), F.mono (fun a j z => by unfold xF at z; unfold mZ; omega), F.2.2 m 0 (by unfold xF; omega)⟩
theorem p_pairs (hl : G.1.stackTraces = false) (hm : G.n0 ≤ m) (X : MT G h m A T ln im pa r b n fl) (F : Wf A) (p : Int32) : EvM G m_Mo_pairs [.ref m, .int p] h (MQt G h m A T ln im pa r b n fl (prsQ A p)) := by
  have b7 := F.1.2.1
  have t7 := two_nP F.1
  have X0 := X.thr 0
  have F0 : Fs (mZ m) h (hset h m 0 (.int 0)) := Fs.rf.set (by unfold mZ; omega)
  have all : (1 : Int32) <<< (A 0 0 &&& 31) - 1 = nI (2 ^ nP A - 1) := by rw [F.1.1]; exact (sh7 _ b7).2
  have al : 2 ^ nP A - 1 < 2 ^ nP A := Nat.sub_lt (Nat.two_pow_pos _) (by decide)
  have rb := fun t => PV_b F (t &&& lmN A)
  unfold prsQ
  refine en_Mo_pairs h _ m _ (e_Mo_pairs_0 hl h _ m _ ⟨⟨hm, X.W.kd⟩, e_Mo_pairs_5 hl _ _ m _ ⟨fun c => ?_, fun c => ?_⟩⟩)
  · rw [if_pos c]
    refine ⟨X0.W.kd, _, o_thr0 hl 1, fun o h1 z => Or.inl ⟨0, z.1, fun _ => ?_, fun q => absurd rfl q⟩⟩
    rw [z.2]
    refine ⟨X0.W.kd, _, o_laysPairs hl hm X0.W F, fun o2 h2 y => Or.inl ⟨y.1, ?_⟩⟩
    obtain ⟨X2, F2, e2⟩ := X0.pr y.2.1 y.2.2.1
    refine ⟨X2.W.kd, _, o_people hl X2.W, fun q => absurd c q, fun _ => ⟨_, X2.W.r24, nI (RV A (2 ^ nP A - 1)), ?_, rfl, by rw [e2]; exact hs_eq, X2, F0.tr F2⟩⟩
    rw [all]; exact aI_of X2.W.s15 (by omega) (by decide) (y.2.2.2 _ al)
  · rw [if_neg c]
    rcases person_cases F.1 p with e | ⟨e, j, hj, rfl⟩
    · rw [if_pos e]
      refine ⟨X0.W.kd, 1, o_noPe hl X0.W F.1 e, fun q => absurd q (by decide), fun _ => ⟨X0.W.kd, _, o_thr1 hl hm X0.W 1, fun o h1 z => Or.inl ⟨1, z.1, fun q => absurd q (by decide), fun _ => ?_⟩⟩⟩
      rw [z.2]; exact MQt_no X0 F0 1
    · have j7 := F.1.P7 hj
      rw [if_neg (by rw [e]; decide), nI_clamp (by omega)]
      refine ⟨X0.W.kd, 0, o_noPe hl X0.W F.1 e, fun _ => ⟨X0.W.kd, _, o_thr0 hl 1, fun o h1 z => Or.inl ⟨0, z.1, fun _ => ?_, fun q => absurd rfl q⟩⟩, fun q => absurd rfl q⟩
      rw [z.2]
      refine ⟨X0.W.kd, _, o_laysPairs hl hm X0.W F, fun o2 h2 y => Or.inl ⟨y.1, ?_⟩⟩
      obtain ⟨X2, F2, e2⟩ := X0.pr y.2.1 y.2.2.1
      have R := y.2.2.2
      refine ⟨X2.W.kd, _, o_people hl X2.W, fun _ => ?_, fun q => absurd q c⟩
      rw [all]
      have fin : ∀ w s, Ev G m_Mo_pairs 63 [.ref m, .int (nI j), .int s, .int w, .int 1, un, un] [] h2 0 0 (MQt G h m A T ln im pa r b n fl (0, w)) := fun w s =>
        e_Mo_pairs_63 hl h2 _ _ _ _ _ _ ⟨fun _ => ⟨rfl, by rw [e2]; exact hs_eq, X2, F0.tr F2⟩, fun q => absurd q (by decide)⟩
      suffices hh : ∀ d p s w, p + d = j + 1 → s < 2 ^ nP A → s.testBit j = true → (∀ i, i < p → s.testBit i = false) → Ev G m_Mo_pairs 63 [.ref m, .int (nI j), .int (nI s), .int w, .int 0, un, un] [] h2 0 0 (MQt G h m A T ln im pa r b n fl (0, ptn A j d p s)) from hh (j + 1) 0 _ (-1) (by omega) al (by rw [Nat.testBit_two_pow_sub_one]; exact decide_eq_true hj) (fun i hi => by omega)
      intro d
      induction d with
      | zero =>
        intro p s w hp _ hb lo
        exact absurd hb (by rw [lo j (by omega)]; decide)
      | succ d ih =>
        intro p s w hp hs hb lo
        have pn : p < nP A := by omega
        unfold ptn
        by_cases sb : s.testBit p = true
        · rw [if_pos sb]
          have e1 : nI s &&& ((1 : Int32) <<< (nI p &&& 31) ^^^ -1) = nI (clr s p) := clr_nI (by omega)
          have cp := clr_lt (p := p) hs
          have a3 : aI h2 101 (m + 15) (nI s) (nI (RV A s)) := aI_of X2.W.s15 (by omega) (by decide) (R _ hs)
          have nb := fun c' q => nxS_bit F.1 pn sb hb c' q
          have nl := nxS_low F.1 pn sb lo
          have r0 : RV A s ≤ 200 := rb _
          have r1 : RV A (clr s p) ≤ 200 := rb _
          refine e_Mo_pairs_63 hl h2 _ _ _ _ _ _ ⟨fun q => absurd rfl q, fun _ => ⟨_, o_first hl (by omega) (by omega) sb lo, ?_⟩⟩
          have wi : ∀ q, q < nP A → lpF A p s = nI q → nxS A p s = clr (clr s p) q := fun q hq e => by unfold nxS; rw [e, if_neg (m1_ne (by omega)), nI_clamp (by omega)]
          have w0 : lpF A p s = -1 → nxS A p s = clr s p := fun e => by unfold nxS; rw [if_pos e]
          refine e_Mo_pairs_77 hl h2 _ _ _ _ _ _ ⟨X2.W.kd, _, o_pairedBy0 hl X2.W F hs pn sb lo R cp, _, X2.W.r24, _, a3, fun q => ?_, fun q => ?_⟩
          · have q' := (nI_eq (by omega) (by omega)).mp q
            have l0 : lpF A p s = -1 := by unfold lpF; rw [if_pos q']
            rw [l0]
            refine ⟨fun c1 => ⟨fun z => absurd c1 z, fun _ => ⟨fun z => absurd rfl z, fun _ => ?_⟩⟩, fun c1 => ⟨fun c2 => ⟨fun _ => ⟨fun z => absurd rfl z, fun _ => ?_⟩, fun z => absurd z c1⟩, fun c2 => absurd c2.symm (m1_ne (by omega))⟩⟩
            · rw [if_pos ((nI_eq (by omega) (by omega)).mp c1)]; exact fin _ _
            · have c' : ¬ p = j := fun z => c1 (by rw [z])
              rw [if_neg c', if_neg (fun z => m1_ne (by omega) z.symm), e1, ← w0 l0]
              exact ih (p + 1) _ _ (by omega) (nxS_lt hs) (nb c' (fun z => by rw [l0] at z; exact m1_ne (by omega) z.symm)) nl
          · have q' : ¬ RV A (clr s p) = RV A s := fun z => q (by rw [z])
            rcases lpF_sp F.1 pn sb with ⟨-, e3⟩ | ⟨q0, q1, e3, -, -, e4⟩
            · exact absurd e3 q'
            · rw [show (-1 : Int32) + 1 = nI 0 from rfl]
              suffices hg : ∀ e t, t + e = nP A → lpG A p s e t = nI q0 → Ev G m_Mo_pairs 77 [.ref m, .int (nI j), .int (nI s), un, un, .int (nI p), .int (nI t)] [] h2 0 0 (MQt G h m A T ln im pa r b n fl (0, if p = j then lpF A p s else if lpF A p s = nI j then nI p else ptn A j d (p + 1) (nxS A p s))) from hg (nP A) 0 (by omega) e4
              intro e
              induction e with
              | zero => intro t ht z; exact absurd z.symm (m1_ne (by omega))
              | succ e ihe =>
                intro t ht z
                have tn : t < nP A := by omega
                have wb : wA A p t ≤ 18 := by
                  have g1 := (gpN_nI F pn).2
                  have g2 := (gpN_nI F tn).2
                  have e : wA A p t = gpN A p + gpN A t := rfl
                  omega
                have r2 : RV A (clr (clr s p) t) ≤ 200 := rb _
                have e2' : nI (clr s p) &&& ((1 : Int32) <<< (nI t &&& 31) ^^^ -1) = nI (clr (clr s p) t) := clr_nI (by omega)
                unfold lpG at z
                refine e_Mo_pairs_77 hl h2 _ _ _ _ _ _ ⟨X2.W.kd, _, o_pairedBy1 hl X2.W F hs pn tn sb lo R (clr_lt cp), _, X2.W.r24, _, a3, fun q => ?_, fun q => ?_⟩
                · by_cases cc : (clr s p).testBit t = true ∧ lvB A p = true ∧ lvB A t = true ∧ prA A p t = true
                  · rw [if_pos cc] at q
                    have q2 := (nI_eq (by omega) (by omega)).mp q
                    rw [if_pos ⟨cc, q2⟩] at z
                    have lt : lpF A p s = nI t := by rw [e3, z]
                    rw [lt]
                    have m1t : ¬ nI t = -1 := m1_ne (by omega)
                    refine ⟨fun c1 => ⟨fun y => absurd c1 y, fun _ => ⟨fun _ => ?_, fun y => absurd y m1t⟩⟩, fun c1 => ⟨fun c2 => ⟨fun _ => ⟨fun _ => ?_, fun y => absurd y m1t⟩, fun y => absurd y c1⟩, fun c2 => ⟨fun _ => ⟨fun _ => ?_, fun y => absurd y m1t⟩, fun y => absurd y c1⟩⟩⟩
                    · rw [if_pos ((nI_eq (by omega) (by omega)).mp c1)]; exact fin _ _
                    · have c' : ¬ p = j := fun z => c1 (by rw [z])
                      rw [if_neg c', if_neg c2, e1, e2', ← wi t tn lt]
                      exact ih (p + 1) _ _ (by omega) (nxS_lt hs) (nb c' (by rw [lt]; exact c2)) nl
                    · have c' : ¬ p = j := fun z => c1 (by rw [z])
                      rw [if_neg c', if_pos c2]; exact fin _ _
                  · rw [if_neg cc] at q; exact absurd q.symm (m1_ne (by omega))
                · rw [if_neg (fun y => q (by rw [if_pos y.1, y.2]))] at z
                  rw [nI_1]; exact ihe (t + 1) (by omega) z
        · rw [if_neg sb]
          exact ih (p + 1) s w (by omega) hs hb (fun i hi => by
            by_cases z : i = p
            · subst z; cases q : s.testBit i <;> simp_all
            · exact lo i (by omega))
end PAIR
