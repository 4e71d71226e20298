/-! ===== bargains awake: everyone keeps what he holds ===== -/
def cF (A : Vs) (p : Nat) : Int32 := if A 5 p = 1 then holdF A (nI p) else -1
def hn (A : Vs) (p : Nat) : Nat := (cF A p).toNatClampNeg
def rkN (A : Vs) (t : Nat) : Nat := wN A t * 16 + (15 - t)
def rk (A : Vs) (p : Nat) : Nat := rkN A (hn A p)
theorem cF_sp {A : Vs} (W : Wf A) {p : Nat} (hp : p < nP A) : cF A p = -1 ∨ (cF A p = nI (hn A p) ∧ hn A p < nT A ∧ A 10 (hn A p) = nI p) := by
  have b10 := W.1.2.2.2
  unfold hn cF
  by_cases c : A 5 p = 1
  · rw [if_pos c]
    rcases holdF_spec A (nI p) with ⟨e, -⟩ | ⟨u, hu, e, -, e2⟩
    · exact Or.inl e
    · rw [e, nI_clamp (by omega)]; exact Or.inr ⟨rfl, hu, e2⟩
  · rw [if_neg c]; exact Or.inl rfl
theorem rkN_b {A : Vs} (W : Wf A) {t : Nat} (ht : t < nT A) : rkN A t ≤ 2000 := by
  have := (wN_nI W ht).2
  unfold rkN; omega
theorem rkN_lt {A : Vs} {t u : Nat} (ht : t < 10) (hu : u < 10) : rkN A u < rkN A t ↔ wN A u < wN A t ∨ (wN A t = wN A u ∧ t < u) := by unfold rkN; omega
theorem rk_ne {A : Vs} (W : Wf A) {p q : Nat} (hp : p < nP A) (hq : q < nP A) (h1 : ¬ cF A p = -1) (h2 : ¬ cF A q = -1) (ne : p ≠ q) : rk A p ≠ rk A q := fun e => by
  have b10 := W.1.2.2.2
  have b7 := W.1.2.1
  rcases cF_sp W hp with z | ⟨-, a1, a2⟩
  · exact h1 z
  rcases cF_sp W hq with z | ⟨-, c1, c2⟩
  · exact h2 z
  unfold rk rkN at e
  have : hn A p = hn A q := by omega
  rw [this, c2] at a2
  exact ne ((nI_eq (by omega) (by omega)).mp a2).symm
/-- they point at themselves, or at something better -/
def Pts (A : Vs) (s : Nat) (pt : Nat → Nat) : Prop := ∀ p, s.testBit p = true → s.testBit (pt p) = true ∧ (pt p = p ∨ rk A p < rk A (pt p))
def Sub (A : Vs) (s : Nat) : Prop := s < 2 ^ nP A ∧ ∀ p, s.testBit p = true → ¬ cF A p = -1
theorem Sub.p {A : Vs} {s p : Nat} (S : Sub A s) (h : s.testBit p = true) : p < nP A := bit_lt S.1 h
theorem ring_ex {A : Vs} (W : Wf A) {s : Nat} {pt : Nat → Nat} (S : Sub A s) (P : Pts A s pt) (h0 : s ≠ 0) : ∃ p, s.testBit p = true ∧ pt p = p := by
  obtain ⟨p0, -, hp0, -⟩ := low_ex h0 S.1
  by_cases ex : ∃ p, s.testBit p = true ∧ pt p = p
  · exact ex
  · exfalso
    have up : ∀ k, ∃ p, s.testBit p = true ∧ k ≤ rk A p := by
      intro k
      induction k with
      | zero => exact ⟨p0, hp0, Nat.zero_le _⟩
      | succ k ih =>
        obtain ⟨p, h1, h2⟩ := ih
        obtain ⟨h3, h4⟩ := P p h1
        rcases h4 with h4 | h4
        · exact absurd ⟨p, h1, h4⟩ ex
        · exact ⟨pt p, h3, by omega⟩
    obtain ⟨p, h1, h2⟩ := up 2001
    rcases cF_sp W (S.p h1) with z | ⟨-, a1, -⟩
    · exact S.2 p h1 z
    · have := rkN_b W a1
      unfold rk at h2; omega
def rgS (s : Nat) (pt : Nat → Nat) (p : Nat) (b : Int32) : Int32 := if s.testBit p = true ∧ pt p = p then b ||| sh1 p else b
def rgF (s : Nat) (pt : Nat → Nat) (n : Nat) : Int32 := lp (rgS s pt) n 0
theorem rgF_bt {s : Nat} {pt : Nat → Nat} {n i : Nat} (hn : n ≤ 32) (hi : i < 32) : bt (rgF s pt n) i = decide (i < n ∧ s.testBit i = true ∧ pt i = i) := lp_bits (c := fun p => s.testBit p = true ∧ pt p = p) hn hi
/-- those who go, go -/
theorem rest_ex {A : Vs} (B : Bd A) {s : Nat} {pt : Nat → Nat} (S : Sub A s) : ∃ s', Sub A s' ∧ nI s &&& (rgF s pt (nP A) ^^^ -1) = nI s' ∧ ∀ p, s'.testBit p = true ↔ s.testBit p = true ∧ ¬ pt p = p := by
  have b7 := B.2.1
  have t7 := two_nP B
  have hb : ∀ i, i < 32 → bt (nI s &&& (rgF s pt (nP A) ^^^ -1)) i = (s.testBit i && !decide (i < nP A ∧ s.testBit i = true ∧ pt i = i)) := fun i hi => by
    rw [b_and, bt_nI hi, bt_inv hi, rgF_bt (by omega) hi]
  have out : ∀ i, nP A ≤ i → s.testBit i = false := fun i hi => Nat.testBit_lt_two_pow (Nat.lt_of_lt_of_le S.1 (Nat.pow_le_pow_right (by decide) hi))
  obtain ⟨s', h1, h2⟩ := small_of_bits (n := nP A) (x := nI s &&& (rgF s pt (nP A) ^^^ -1)) (by omega) (fun i hi h => by rw [hb i hi, out i h]; rfl)
  have iff : ∀ p, s'.testBit p = true ↔ s.testBit p = true ∧ ¬ pt p = p := fun p => by
    by_cases hp : p < nP A
    · have := hb p (by omega)
      rw [h2, bt_nI (by omega)] at this
      rw [this]
      cases q : s.testBit p <;> simp [hp]
    · rw [out p (by omega), Nat.testBit_lt_two_pow (Nat.lt_of_lt_of_le h1 (Nat.pow_le_pow_right (by decide) (by omega)))]; simp
  exact ⟨s', ⟨h1, fun p hp => S.2 p ((iff p).mp hp).1⟩, h2, iff⟩
theorem cnt_less {A : Vs} (W : Wf A) {s s' : Nat} {pt : Nat → Nat} (S : Sub A s) (P : Pts A s pt) (h0 : s ≠ 0) (iff : ∀ p, s'.testBit p = true ↔ s.testBit p = true ∧ ¬ pt p = p) : cntN s' (nP A) 0 < cntN s (nP A) 0 := by
  obtain ⟨p, h1, h2⟩ := ring_ex W S P h0
  exact cnt_lt (fun i hi => ((iff i).mp hi).1) h1 (fun z => ((iff p).mp z).2 h2) (nP A) 0 (Nat.zero_le _) (by have := S.p h1; omega)
section CORE
variable {G : Gx} {h h' h1 : Hp} {x la m v : Nat} {A A' : Vs} {T : Tt} {ln : Int32} {im im' : Option Sv} {pa pa' : Nat → Vs} {r r' : Nat} {b : Nat → Nat} {n : Nat} {fl : Int32}
def mC (x : Nat) : Nat → Nat → Prop := fun a _ => a = x + 6 ∨ a = x + 8 ∨ a = x + 9
def mC9 (x : Nat) : Nat → Nat → Prop := fun a _ => a = x + 9
def HoC (h : Hp) (x : Nat) (T : Tt) (A : Vs) (n : Nat) : Prop := ∀ p, p < n → h.2.1 (x + 8) p = .int (cF A p) ∧ h.2.1 (x + 6) p = .int (nI (gN T A p))
theorem CT.co (C : CT G h x la A T ln im pa r b n fl) (F : Fs (mC x) h h') : CT G h' x la A T ln im pa r b n fl := C.small F (fun a j z => by unfold mC at z; unfold xR; omega)
theorem mC9_C (F : Fs (mC9 x) h h') : Fs (mC x) h h' := F.mono (fun a j z => Or.inr (Or.inr z))
theorem mC_Z (F : Fs (mC x) h h') : Fs (xZ x) h h' := F.mono (fun a j z => by unfold mC at z; unfold xZ; omega)
theorem t_better (hl : G.1.stackTraces = false) (V : VlyAt h v A la) (W : Wf A) {t u : Nat} (ht : t < nT A) (hu : u < nT A) : EvI G m_Ma_isBetter [.ref v, .int (nI t), .int (nI u)] h (if rkN A u < rkN A t then 1 else 0) := by
  have b10 := W.1.2.2.2
  have at_ := wN_nI W ht
  have au := wN_nI W hu
  have sp := sub_pos (a := wN A t) (b := wN A u) (by omega) (by omega)
  have l := rkN_lt (A := A) (by omega : t < 10) (by omega : u < 10)
  refine en_Ma_isBetter h _ _ _ _ (e_Ma_isBetter_0 hl h _ _ _ _ ⟨_, V.r7, nI (wN A t), by rw [← at_.1]; exact V.a6 (by omega), _, V.r7, nI (wN A u), by rw [← au.1]; exact V.a6 (by omega), fun c => ⟨?_, rfl⟩, fun c => ⟨fun d => ⟨?_, rfl⟩, fun d => ⟨fun e => ⟨?_, rfl⟩, fun e => ⟨?_, rfl⟩⟩⟩⟩)
  · rw [if_pos (l.mpr (Or.inl ((nI_ltI (by omega) (by omega)).mp (sp.1.mp c))))]
  · have c' : ¬ wN A u < wN A t := fun z => c (sp.1.mpr (nI_lt z (by omega)))
    have d' : ¬ wN A t = wN A u := fun z => d (sp.2.mpr (by rw [z]))
    rw [if_neg (fun z => by have := l.mp z; omega)]
  · have c' : ¬ wN A u < wN A t := fun z => c (sp.1.mpr (nI_lt z (by omega)))
    have e' := (nI_leI (by omega) (by omega)).mp e
    rw [if_neg (fun z => by have := l.mp z; omega)]
  · have d' := (nI_eq (by omega) (by omega)).mp (sp.2.mp d)
    have e' : ¬ u ≤ t := fun z => e (nI_le z (by omega))
    rw [if_pos (l.mpr (Or.inr ⟨d', by omega⟩))]
theorem t_point (hl : G.1.stackTraces = false) (hx : G.n0 ≤ x) (C : CT G h x la A T ln im pa r b n fl) (W : Wf A) (H : HoC h x T A (nP A)) {s : Nat} (S : Sub A s) : EvM G m_Ma_point [.ref (x + 5), .ref (x + 27), .int (nI s)] h (fun o h' => o = .inl none ∧ Fs (mC9 x) h h' ∧ ∃ pt, Pts A s pt ∧ ∀ p, s.testBit p = true → h'.2.1 (x + 9) p = .int (nI (pt p))) := by
  have b7 := W.1.2.1
  have b10 := W.1.2.2.2
  have keepH : ∀ {g : Hp}, Fs (mC9 x) h g → HoC g x T A (nP A) := fun F p hp => ⟨by rw [F.2.2 _ _ (by unfold mC9; omega)]; exact (H p hp).1, by rw [F.2.2 _ _ (by unfold mC9; omega)]; exact (H p hp).2⟩
  refine en_Ma_point h _ _ _ _ (e_Ma_point_0 hl h _ _ _ _ ?_)
  refine for_up (Q := fun p => ∀ (g : Hp) (pt : Nat → Nat), Fs (mC9 x) h g → (∀ q, q < p → s.testBit q = true → (s.testBit (pt q) = true ∧ (pt q = q ∨ rk A q < rk A (pt q))) ∧ g.2.1 (x + 9) q = .int (nI (pt q))) → Ev G m_Ma_point 2 [.ref (x + 5), .ref (x + 27), .int (nI s), .int (nI p), un, un] [] g 0 0 (fun o h' => o = .inl none ∧ Fs (mC9 x) h h' ∧ ∃ pt, Pts A s pt ∧ ∀ p, s.testBit p = true → h'.2.1 (x + 9) p = .int (nI (pt p)))) (n := nP A) ?_ (fun p hp ih => ?_) 0 (Nat.zero_le _) h id Fs.rf (fun q hq => by omega)
  · intro g pt F P
    exact e_Ma_point_2 hl g _ _ _ _ _ ⟨_, (C.co (mC9_C F)).V.f0, fun _ => ⟨rfl, F, pt, fun q hq => (P q (S.p hq) hq).1, fun q hq => (P q (S.p hq) hq).2⟩, fun c => absurd W.1.end_P c⟩
  · intro g pt F P
    have Cg := C.co (mC9_C F)
    have Sg := Cg.mt
    have Hg := keepH F
    refine e_Ma_point_2 hl g _ _ _ _ _ ⟨_, Cg.V.f0, fun c => absurd c (W.1.in_P hp), fun _ => ⟨fun c => ?_, fun c => ?_⟩⟩
    · have pb : s.testBit p = true := by
        cases q : s.testBit p with
        | true => rfl
        | false => exact absurd ((bit1_f (x := nI s) (by omega)).mpr (by rw [bt_nI (by omega)]; exact q)) c
      have fact : ∀ q, s.testBit q = true → cF A q = nI (hn A q) ∧ hn A q < nT A := fun q hq => by
        rcases cF_sp W (S.p hq) with z | ⟨a1, a2, -⟩
        · exact absurd z (S.2 q hq)
        · exact ⟨a1, a2⟩
      have ho : ∀ q, s.testBit q = true → aI g 101 (x + 8) (nI q) (nI (hn A q)) := fun q hq => by
        have := S.p hq
        rw [← (fact q hq).1]; exact aI_of Sg.2.2.2.2.1 (by omega) (by decide) (Hg q (by omega)).1
      suffices hh : ∀ d q c, q + d = nP A → s.testBit c = true → (c = p ∨ rk A p < rk A c) → Ev G m_Ma_point 27 [.ref (x + 5), .ref (x + 27), .int (nI s), .int (nI p), .int (nI c), .int (nI q)] [] g 0 0 (fun o h' => o = .inl none ∧ Fs (mC9 x) h h' ∧ ∃ pt, Pts A s pt ∧ ∀ p, s.testBit p = true → h'.2.1 (x + 9) p = .int (nI (pt p))) from hh (nP A) 0 p (by omega) pb (Or.inl rfl)
      intro d
      induction d with
      | zero =>
        intro q c hq cb cr
        refine e_Ma_point_27 hl g _ _ _ _ _ _ _ ⟨_, Cg.V.f0, fun _ => ⟨_, Sg.r3, aW_of (by omega) Sg.2.2.2.2.2.1 (by omega) (by decide), ?_⟩, fun c => absurd (by rw [show q = nP A from hq]; exact W.1.end_P) c⟩
        rw [nI_clamp (by omega)]
        refine e_Ma_point_106 hl _ _ _ _ _ _ ?_
        rw [nI_1]
        refine ih _ (fun i => if i = p then c else pt i) (F.set rfl) (fun i hi ib => ?_)
        by_cases z : i = p
        · subst z; rw [if_pos rfl]; exact ⟨⟨cb, cr⟩, hs_eq⟩
        · rw [if_neg z, hs_ne (by omega)]; exact P i (by omega) ib
      | succ d ihd =>
        intro q c hq cb cr
        have qn : q < nP A := by omega
        have st : ∀ c', s.testBit c' = true → (c' = p ∨ rk A p < rk A c') → Ev G m_Ma_point 27 [.ref (x + 5), .ref (x + 27), .int (nI s), .int (nI p), .int (nI c'), .int (nI q + 1)] [] g 0 0 (fun o h' => o = .inl none ∧ Fs (mC9 x) h h' ∧ ∃ pt, Pts A s pt ∧ ∀ p, s.testBit p = true → h'.2.1 (x + 9) p = .int (nI (pt p))) := fun c' a1 a2 => by
          rw [nI_1]; exact ihd (q + 1) c' (by omega) a1 a2
        refine e_Ma_point_27 hl g _ _ _ _ _ _ _ ⟨_, Cg.V.f0, fun z => absurd z (W.1.in_P qn), fun _ => ⟨fun _ => st c cb cr, fun z => ?_⟩⟩
        have qb : s.testBit q = true := by
          have := (bit1_t (x := nI s) (by omega : q < 32)).mp z
          rw [bt_nI (by omega)] at this; exact this
        have fq := fact q qb
        have fc := fact c cb
        refine ⟨_, Cg.V.r8, _, Sg.r2, _, ho q qb, _, Cg.V.a7 (by omega), _, Sg.r0, _, aI_of Sg.2.2.1 (by omega) (by decide) (Hg p hp).2, fun _ => st c cb cr, fun _ => ⟨_, Sg.r2, _, ho q qb, _, Sg.r2, _, ho c cb, _, t_better hl Cg.V W fq.2 fc.2, fun _ => st c cb cr, fun e => ?_⟩⟩
        have e' : rk A c < rk A q := ite1 e
        exact st q qb (Or.inr (by
          rcases cr with y | y
          · rw [← y]; exact e'
          · omega))
    · have pb : ¬ s.testBit p = true := fun z => by
        have := (bit1_f (x := nI s) (by omega : p < 32)).mp c
        rw [bt_nI (by omega), z] at this; cases this
      refine e_Ma_point_106 hl _ _ _ _ _ _ ?_
      rw [nI_1]
      refine ih g pt F (fun i hi ib => ?_)
      by_cases z : i = p
      · subst z; exact absurd ib pb
      · exact P i (by omega) ib
theorem t_inRings (hl : G.1.stackTraces = false) (C : CT G h x la A T ln im pa r b n fl) (W : Wf A) {s : Nat} {pt : Nat → Nat} (S : Sub A s) (P : Pts A s pt) (cont : ∀ p, s.testBit p = true → h.2.1 (x + 9) p = .int (nI (pt p))) : EvI G m_Ma_inRings [.ref (x + 5), .ref (x + 27), .int (nI s)] h (rgF s pt (nP A)) := by
  have b7 := W.1.2.1
  have Sg := C.mt
  have ap : ∀ q, s.testBit q = true → aI h 101 (x + 9) (nI q) (nI (pt q)) := fun q hq => by
    have := S.p hq
    exact aI_of Sg.2.2.2.2.2.1 (by omega) (by decide) (cont q hq)
  refine en_Ma_inRings h _ _ _ _ (e_Ma_inRings_0 hl h _ _ _ _ ?_)
  refine for_up (Q := fun p => Ev G m_Ma_inRings 5 [.ref (x + 5), .ref (x + 27), .int (nI s), .int (lp (rgS s pt) p 0), .int (nI p), un, un] [] h 0 0 (fun o h' => o = .inl (some (.int (rgF s pt (nP A)))) ∧ h' = h)) (n := nP A) ?_ (fun p hp ih => ?_) 0 (Nat.zero_le _)
  · exact e_Ma_inRings_5 hl h _ _ _ _ _ _ ⟨_, C.V.f0, fun _ => ⟨rfl, rfl⟩, fun c => absurd W.1.end_P c⟩
  · have ih' : ∀ y, rgS s pt p (lp (rgS s pt) p 0) = y → Ev G m_Ma_inRings 5 [.ref (x + 5), .ref (x + 27), .int (nI s), .int y, .int (nI p + 1), un, un] [] h 0 0 (fun o h' => o = .inl (some (.int (rgF s pt (nP A)))) ∧ h' = h) := fun y e => by rw [nI_1, ← e]; exact ih
    have no : ∀ {y : Int32}, ¬ (s.testBit p = true ∧ pt p = p) → rgS s pt p y = y := fun q => by unfold rgS; rw [if_neg q]
    have ys : ∀ {y : Int32}, (s.testBit p = true ∧ pt p = p) → rgS s pt p y = y ||| sh1 p := fun q => by unfold rgS; rw [if_pos q]
    refine e_Ma_inRings_5 hl h _ _ _ _ _ _ ⟨_, C.V.f0, fun c => absurd c (W.1.in_P hp), fun _ => ?_⟩
    refine e_Ma_inRings_21 hl h _ _ _ _ _ _ _ _ ⟨_, C.V.f0, fun c => absurd c (fun q => W.1.in_P (by omega : 0 < nP A) q), fun _ => ⟨fun c => ?_, fun c => ?_⟩⟩
    · exact ih' _ (no (fun z => c ((bit1_t (by omega)).mpr (by rw [bt_nI (by omega)]; exact z.1))))
    · have pb : s.testBit p = true := by
        have := (bit1_t (x := nI s) (by omega : p < 32)).mp c
        rw [bt_nI (by omega)] at this; exact this
      obtain ⟨p1, p2⟩ := P p pb
      refine ⟨_, Sg.r3, _, ap p pb, fun d => ?_, fun d => ?_⟩
      · have d' : ¬ pt p = p := fun z => d (by rw [z])
        have up : rk A p < rk A (pt p) := p2.resolve_left d'
        rw [show (0 : Int32) + 1 = nI 1 from rfl]
        suffices hh : ∀ e k q, k + e = nP A → s.testBit q = true → rk A p < rk A q → Ev G m_Ma_inRings 21 [.ref (x + 5), .ref (x + 27), .int (nI s), .int (lp (rgS s pt) p 0), .int (nI p), .int (nI q), .int (nI k)] [] h 0 0 (fun o h' => o = .inl (some (.int (rgF s pt (nP A)))) ∧ h' = h) from hh (nP A - 1) 1 (pt p) (by omega) p1 up
        intro e
        induction e with
        | zero =>
          intro k q hk _ _
          exact e_Ma_inRings_21 hl h _ _ _ _ _ _ _ _ ⟨_, C.V.f0, fun _ => ih' _ (no (fun z => d' z.2)), fun c => absurd (by rw [show k = nP A from hk]; exact W.1.end_P) c⟩
        | succ e ihe =>
          intro k q hk qb qr
          obtain ⟨q1, q2⟩ := P q qb
          have qr' : rk A p < rk A (pt q) := by
            rcases q2 with y | y
            · rw [y]; exact qr
            · omega
          have := S.p q1
          refine e_Ma_inRings_21 hl h _ _ _ _ _ _ _ _ ⟨_, C.V.f0, fun z => absurd z (W.1.in_P (by omega)), fun _ => ⟨fun z => absurd c z, fun _ => ⟨_, Sg.r3, _, ap q qb, fun _ => ?_, fun y => ?_⟩⟩⟩
          · rw [nI_1]; exact ihe (k + 1) (pt q) (by omega) q1 qr'
          · have y' := (nI_eq (by omega) (by omega)).mp y
            rw [y'] at qr'; omega
      · have := S.p p1
        exact ih' _ (ys ⟨pb, (nI_eq (by omega) (by omega)).mp d⟩)
def hoS (A : Vs) (p : Nat) (b : Int32) : Int32 := if ¬ cF A p = -1 then b ||| sh1 p else b
theorem ho_sub {A : Vs} (B : Bd A) : ∃ s, Sub A s ∧ lp (hoS A) (nP A) 0 = nI s ∧ ∀ p, p < nP A → (s.testBit p = true ↔ ¬ cF A p = -1) := by
  have b7 := B.2.1
  have hb : ∀ i, i < 32 → bt (lp (hoS A) (nP A) 0) i = decide (i < nP A ∧ ¬ cF A i = -1) := fun i hi => lp_bits (c := fun p => ¬ cF A p = -1) (by omega) hi
  obtain ⟨s, h1, h2⟩ := small_of_bits (n := nP A) (x := lp (hoS A) (nP A) 0) (by omega) (fun i hi h => by rw [hb i hi, decide_eq_false (by omega)])
  have iff : ∀ p, p < nP A → (s.testBit p = true ↔ ¬ cF A p = -1) := fun p hp => by
    have := hb p (by omega)
    rw [h2, bt_nI (by omega)] at this
    rw [this]; simp [hp]
  exact ⟨s, ⟨h1, fun p hp => (iff p (bit_lt h1 hp)).mp hp⟩, h2, iff⟩
theorem cnt_0 {s n p : Nat} (h : s.testBit p = true) (hp : p < n) : 0 < cntN s n 0 := by
  have := cnt_lt (j := 0) (s := s) (i := p) (fun i hi => by rw [Nat.zero_testBit] at hi; cases hi) h (by rw [Nat.zero_testBit]; decide) n 0 (Nat.zero_le _) (by omega)
  omega
theorem cnt_le {s : Nat} : ∀ d t, cntN s d t ≤ d
  | 0, _ => Nat.le_refl _
  | d + 1, t => by
    have := cnt_le (s := s) d t
    rw [cntN_snoc]
    split <;> omega
theorem t_core (hl : G.1.stackTraces = false) (hx : G.n0 ≤ x) (C : CT G h x la A T ln im pa r b n fl) (W : Wf A) {j : Nat} (hj : j < nP A) : EvM G m_Ma_core [.ref (x + 5), .ref (x + 27), .int (nI j)] h (fun o h' => o = .inl (some (.int (cF A j))) ∧ Fs (mC x) h h') := by
  have b7 := W.1.2.1
  refine en_Ma_core h _ _ _ _ (e_Ma_core_0 hl h _ _ _ _ ?_)
  refine for_up (Q := fun p => ∀ g : Hp, Fs (mC x) h g → HoC g x T A p → Ev G m_Ma_core 5 [.ref (x + 5), .ref (x + 27), .int (nI j), .int (lp (hoS A) p 0), .int (nI p), un] [] g 0 0 (fun o h' => o = .inl (some (.int (cF A j))) ∧ Fs (mC x) h h')) (n := nP A) ?_ (fun p hp ih => ?_) 0 (Nat.zero_le _) h Fs.rf (fun q hq => by omega)
  · intro g F H
    obtain ⟨s, S, es, siff⟩ := ho_sub W.1
    refine e_Ma_core_5 hl g _ _ _ _ _ _ ⟨_, (C.co F).V.f0, fun _ => ?_, fun c => absurd W.1.end_P c⟩
    rw [es]
    suffices hh : ∀ d i s (g : Hp), i + d = nP A → Fs (mC x) h g → HoC g x T A (nP A) → Sub A s → (¬ cF A j = -1 → s.testBit j = true) → cntN s (nP A) 0 ≤ d → Ev G m_Ma_core 84 [.ref (x + 5), .ref (x + 27), .int (nI j), .int (nI s), .int (nI i), un] [] g 0 0 (fun o h' => o = .inl (some (.int (cF A j))) ∧ Fs (mC x) h h') from hh (nP A) 0 s g (by omega) F H S (siff j hj).mpr (cnt_le _ _)
    intro d
    induction d with
    | zero =>
      intro i s g hi F H S hs hc
      have e : cF A j = -1 := by
        by_cases z : cF A j = -1
        · exact z
        · have := cnt_0 (hs z) hj; omega
      exact e_Ma_core_84 hl g _ _ _ _ _ _ ⟨_, (C.co F).V.f0, fun _ => ⟨by rw [e], F⟩, fun c => absurd (by rw [show i = nP A from hi]; exact W.1.end_P) c⟩
    | succ d ihd =>
      intro i s g hi F H S hs hc
      have Cg := C.co F
      refine e_Ma_core_84 hl g _ _ _ _ _ _ ⟨_, Cg.V.f0, fun c => absurd c (W.1.in_P (by omega)), fun _ => ⟨fun c => ?_, fun c => ?_⟩⟩
      · have t7 := two_nP W.1
        have s0 : s = 0 := (nI_eq (by have := S.1; omega) (by decide)).mp (show nI s = nI 0 from c)
        have e : cF A j = -1 := by
          by_cases z : cF A j = -1
          · exact z
          · have := hs z; rw [s0, Nat.zero_testBit] at this; cases this
        exact ⟨by rw [e], F⟩
      · have s0 : s ≠ 0 := fun z => c (by rw [z]; rfl)
        refine ⟨Cg.mt.kd, _, t_point hl hx Cg W H S, fun o1 h1 z => Or.inl ?_⟩
        obtain ⟨z1, F1, pt, P, cont⟩ := z
        have F2 := F.tr (mC9_C F1)
        have C2 := C.co F2
        have H2 : HoC h1 x T A (nP A) := fun p hp => ⟨by rw [F1.2.2 _ _ (by unfold mC9; omega)]; exact (H p hp).1, by rw [F1.2.2 _ _ (by unfold mC9; omega)]; exact (H p hp).2⟩
        refine ⟨z1, C2.mt.kd, _, t_inRings hl C2 W S P cont, fun d1 => ?_, fun d1 => ?_⟩
        · have d2 : ¬ (s.testBit j = true ∧ pt j = j) := fun y => d1 ((bit1_t (by omega)).mpr (by rw [rgF_bt (by omega) (by omega)]; exact decide_eq_true ⟨hj, y⟩))
          obtain ⟨s', S', es', iff⟩ := rest_ex W.1 (pt := pt) S
          rw [es', nI_1]
          have := cnt_less W S P s0 iff
          exact ihd (i + 1) s' h1 (by omega) F2 H2 S' (fun y => (iff j).mpr ⟨hs y, fun q => d2 ⟨hs y, q⟩⟩) (by omega)
        · have d2 := (bit1_t (x := rgF s pt (nP A)) (by omega : j < 32)).mp d1
          rw [rgF_bt (by omega) (by omega)] at d2
          obtain ⟨-, jb, pj⟩ := of_decide_eq_true d2
          have cj := cont j jb
          rw [pj] at cj
          exact ⟨_, C2.mt.r2, _, C2.mt.r3, _, aI_of C2.mt.2.2.2.2.2.1 (by omega) (by decide) cj, _, aI_of C2.mt.2.2.2.2.1 (by omega) (by decide) (H2 j hj).1, rfl, F2⟩
  · intro g F H
    have Cg := C.co F
    have Sg := Cg.mt
    have p7 := W.1.P7 hp
    have gp := gN_nI T A p
    have go : ∀ y, y = cF A p → aW G g 101 (x + 8) (nI p) ∧ Ev G m_Ma_core 40 [.ref (x + 5), .ref (x + 27), .int (nI j), .int (lp (hoS A) p 0), .int (nI p), un] [] (hset g (x + 8) (nI p).toNatClampNeg (.int y)) 0 0 (fun o h' => o = .inl (some (.int (cF A j))) ∧ Fs (mC x) h h') := fun y ey => by
      refine ⟨aW_of (by omega) Sg.2.2.2.2.1 p7 (by decide), ?_⟩
      rw [nI_clamp (by omega)]
      have F1 : Fs (mC x) h (hset g (x + 8) p (.int y)) := F.set (Or.inr (Or.inl rfl))
      have C1 := C.co F1
      refine e_Ma_core_40 hl _ _ _ _ _ _ _ ⟨_, C1.mt.r0, C1.V.kd, _, v_grips hl C1.V W C1.C.L.1 hp, aW_of (by omega) C1.mt.2.2.1 p7 (by decide), ?_⟩
      rw [nI_clamp (by omega), gp.1]
      have F2 : Fs (mC x) h (hset (hset g (x + 8) p (.int y)) (x + 6) p (.int (nI (gN T A p)))) := F1.set (Or.inl rfl)
      have C2 := C.co F2
      have H2 : HoC (hset (hset g (x + 8) p (.int y)) (x + 6) p (.int (nI (gN T A p)))) x T A (p + 1) := fun q hq => by
        by_cases z : q = p
        · subst z; exact ⟨by rw [hs_ne (by omega), hs_eq, ey], hs_eq⟩
        · exact ⟨by rw [hs_ne (by omega), hs_ne (by omega)]; exact (H q (by omega)).1, by rw [hs_ne (by omega), hs_ne (by omega)]; exact (H q (by omega)).2⟩
      have ih2 := ih _ F2 H2
      have st : lp (hoS A) (p + 1) 0 = hoS A p (lp (hoS A) p 0) := rfl
      rw [st] at ih2
      refine e_Ma_core_53 hl _ _ _ _ _ _ _ ⟨_, C2.mt.r2, _, aI_of C2.mt.2.2.2.2.1 p7 (by decide) (H2 p (by omega)).1, fun c => ?_, fun c => ?_⟩
      · rw [nI_1]; unfold hoS at ih2; rw [if_pos c] at ih2; exact ih2
      · rw [nI_1, Int32.or_zero]; unfold hoS at ih2; rw [if_neg (fun z => z c)] at ih2; exact ih2
    refine e_Ma_core_5 hl g _ _ _ _ _ _ ⟨_, Cg.V.f0, fun c => absurd c (W.1.in_P hp), fun _ => ⟨_, Sg.r2, Cg.V.kd, _, v_living hl Cg.V W.1 hp, fun c => go _ (by unfold cF; rw [if_neg (ite0 c)]), fun c => ⟨Cg.V.kd, _, v_holding hl Cg.V W.1 _, go _ (by unfold cF; rw [if_pos (ite1 c)])⟩⟩⟩
end CORE
