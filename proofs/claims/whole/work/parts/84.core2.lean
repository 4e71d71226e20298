/-! ===== bargains awake: the reference ===== -/
/-- whether p likes o's thing more than that of c -/
def lkF (T : Tt) (A : Vs) (p o : Nat) (c : Int32) : Int32 := if o = p ∨ ¬ gripF T A p < A 7 (hn A o) then (if c = -1 then 1 else if rkN A (hn A c.toNatClampNeg) < rkN A (hn A o) then 1 else 0) else 0
section CORE2
variable {G : Gx} {h h' h1 : Hp} {x la m v : Nat} {A A' : Vs} {T : Tt} {ln : Int32} {im im' : Option Sv} {pa pa' : Nat → Vs} {r r' : Nat} {b : Nat → Nat} {n : Nat} {fl : Int32}
theorem WldAt.r18 (W : WldAt h m A) : fR h 11 m 18 (m + 9) := ⟨W.kd, W.1.1.2.2.2.2.2.2.2.2.2.1⟩
theorem WldAt.r19 (W : WldAt h m A) : fR h 11 m 19 (m + 10) := ⟨W.kd, W.1.1.2.2.2.2.2.2.2.2.2.2.1⟩
theorem WldAt.r20 (W : WldAt h m A) : fR h 11 m 20 (m + 11) := ⟨W.kd, W.1.1.2.2.2.2.2.2.2.2.2.2.2.1⟩
theorem WldAt.s9 (W : WldAt h m A) : h.1 (m + 9) = (101, 7) := W.1.2.2.2.2.2.2.2.2.2.1
theorem WldAt.s10 (W : WldAt h m A) : h.1 (m + 10) = (101, 7) := W.1.2.2.2.2.2.2.2.2.2.2.1
theorem WldAt.s11 (W : WldAt h m A) : h.1 (m + 11) = (101, 7) := W.1.2.2.2.2.2.2.2.2.2.2.2.1
def AtC (h : Hp) (m : Nat) (A : Vs) (n : Nat) : Prop := ∀ p, p < n → h.2.1 (m + 9) p = .int (cF A p)
/-- what may change while they bargain -/
def mB (m : Nat) : Nat → Nat → Prop := fun a j => mW m a j ∨ a = m + 11
theorem mB_U {a j : Nat} (z : mB m a j) : mU m a j := by
  unfold mB at z; unfold mU
  rcases z with z | z
  · exact Or.inr (Or.inl z)
  · exact Or.inr (Or.inr (by omega))
theorem AtC.keep (H : AtC h m A n) (e : ∀ j, h'.2.1 (m + 9) j = h.2.1 (m + 9) j) : AtC h' m A n := fun p hp => by rw [e]; exact H p hp
theorem o_likes (hl : G.1.stackTraces = false) (W : WldAt h m A) (F : Wf A) (L : MLawOk G h m T) (H : AtC h m A (nP A)) {p o : Nat} {c : Int32} (hp : p < nP A) (ho : o < nP A) (h1 : ¬ cF A o = -1) (hc : c = -1 ∨ ∃ q, q < nP A ∧ c = nI q ∧ ¬ cF A q = -1) : EvM G m_Mo_likesMore [.ref m, .int (nI p), .int (nI o), .int c] h (mpostI m h A (lkF T A p o c)) := by
  have b7 := F.1.2.1
  have b10 := F.1.2.2.2
  obtain ⟨fo1, fo2⟩ : cF A o = nI (hn A o) ∧ hn A o < nT A := by
    rcases cF_sp F ho with z | ⟨z1, z2, -⟩
    · exact absurd z h1
    · exact ⟨z1, z2⟩
  have wo := wN_nI F fo2
  /- the second half, in any heap that the first may leave -/
  have half : ∀ g : Hp, WldAt g m A → Fs (mW m) h g → ∀ e, e = (if c = -1 then (1 : Int32) else if rkN A (hn A c.toNatClampNeg) < rkN A (hn A o) then 1 else 0) →
      ((¬ c = -1 → ∃ y1, fR g 11 m 18 y1 ∧ ∃ x2, aI g 101 y1 (nI o) x2 ∧ (g.1 m).1 = 11 ∧ ∃ x3, EvI G m_Mo_ofThing [.ref m, .int x2, .int 0] g x3 ∧ ∃ y4, fR g 11 m 18 y4 ∧ ∃ x5, aI g 101 y4 c x5 ∧ (g.1 m).1 = 11 ∧ ∃ x6, EvI G m_Mo_ofThing [.ref m, .int x5, .int 0] g x6 ∧ (0 < (x3 - x6) → mpostI m h A e (.inl (some (.int 1))) g) ∧ (¬ 0 < (x3 - x6) → (¬ (x3 - x6) = 0 → mpostI m h A e (.inl (some (.int 0))) g) ∧ ((x3 - x6) = 0 → ∃ y7, fR g 11 m 18 y7 ∧ ∃ x8, aI g 101 y7 (nI o) x8 ∧ ∃ y9, fR g 11 m 18 y9 ∧ ∃ x10, aI g 101 y9 c x10 ∧ (x10 ≤ x8 → mpostI m h A e (.inl (some (.int 0))) g) ∧ (¬ x10 ≤ x8 → mpostI m h A e (.inl (some (.int 1))) g)))) ∧
       (c = -1 → mpostI m h A e (.inl (some (.int 1))) g)) := by
    intro g Wg Fg e ee
    have Hg : AtC g m A (nP A) := H.keep (fun j => Fg.2.2 _ _ (by unfold mW; omega))
    refine ⟨fun cn => ?_, fun cn => ⟨by rw [ee, if_pos cn], Wg, Fg⟩⟩
    rcases hc with z | ⟨q, hq, rfl, hq1⟩
    · exact absurd z cn
    · obtain ⟨fq1, fq2⟩ : cF A q = nI (hn A q) ∧ hn A q < nT A := by
        rcases cF_sp F hq with z | ⟨z1, z2, -⟩
        · exact absurd z hq1
        · exact ⟨z1, z2⟩
      have wq := wN_nI F fq2
      rw [if_neg cn, nI_clamp (by omega)] at ee
      have ao : aI g 101 (m + 9) (nI o) (nI (hn A o)) := by rw [← fo1]; exact aI_of Wg.s9 (by omega) (by decide) (Hg o ho)
      have aq : aI g 101 (m + 9) (nI q) (nI (hn A q)) := by rw [← fq1]; exact aI_of Wg.s9 (by omega) (by decide) (Hg q hq)
      have sp := sub_pos (a := wN A (hn A o)) (b := wN A (hn A q)) (by omega) (by omega)
      have l := rkN_lt (A := A) (by omega : hn A o < 10) (by omega : hn A q < 10)
      refine ⟨_, Wg.r18, _, ao, Wg.kd, nI (wN A (hn A o)), by rw [← wo.1]; exact o_ofThing hl Wg (by omega) (f := 0) (by decide), _, Wg.r18, _, aq, Wg.kd, nI (wN A (hn A q)), by rw [← wq.1]; exact o_ofThing hl Wg (by omega) (f := 0) (by decide), fun c1 => ⟨?_, Wg, Fg⟩, fun c1 => ⟨fun c2 => ⟨?_, Wg, Fg⟩, fun c2 => ⟨_, Wg.r18, _, ao, _, Wg.r18, _, aq, fun c3 => ⟨?_, Wg, Fg⟩, fun c3 => ⟨?_, Wg, Fg⟩⟩⟩⟩
      · rw [ee, if_pos (l.mpr (Or.inl ((nI_ltI (by omega) (by omega)).mp (sp.1.mp c1))))]
      · have c' : ¬ wN A (hn A q) < wN A (hn A o) := fun z => c1 (sp.1.mpr (nI_lt z (by omega)))
        have d' : ¬ wN A (hn A o) = wN A (hn A q) := fun z => c2 (sp.2.mpr (by rw [z]))
        rw [ee, if_neg (fun z => by have := l.mp z; omega)]
      · have c' : ¬ wN A (hn A q) < wN A (hn A o) := fun z => c1 (sp.1.mpr (nI_lt z (by omega)))
        have e' := (nI_leI (by omega) (by omega)).mp c3
        rw [ee, if_neg (fun z => by have := l.mp z; omega)]
      · have d' := (nI_eq (by omega) (by omega)).mp (sp.2.mp c2)
        have e' : ¬ hn A q ≤ hn A o := fun z => c3 (nI_le z (by omega))
        rw [ee, if_pos (l.mpr (Or.inr ⟨d', by omega⟩))]
  refine en_Mo_likesMore h _ _ _ _ _ (e_Mo_likesMore_0 hl h _ _ _ _ _ ⟨fun c1 => ⟨fun z => absurd z (by decide), fun _ => half h W Fs.rf _ ?_⟩, fun c1 => ⟨_, W.r18, nI (hn A o), by rw [← fo1]; exact aI_of W.s9 (by omega) (by decide) (H o ho), W.kd, _, o_canHold hl W F L hp fo2, fun o1 h1 z => Or.inl ⟨_, z.1, fun d => ⟨fun _ => ⟨?_, z.2.1, z.2.2⟩, fun y => absurd rfl y⟩, fun d => ⟨fun y => absurd y (by decide), fun _ => half h1 z.2.1 z.2.2 _ ?_⟩⟩⟩⟩)
  · unfold lkF; rw [if_pos (Or.inl ((nI_eq (by omega) (by omega)).mp c1))]
  · unfold lkF; rw [if_neg (fun y => by
      rcases y with y | y
      · exact c1 (by rw [y])
      · rw [if_neg y] at d; exact absurd d (by decide))]
  · unfold lkF; rw [if_pos (Or.inr (fun y => by rw [if_pos y] at d; exact absurd rfl d))]
theorem WldAt.ptr (W : WldAt h m A) {j : Nat} {y : Value} : WldAt (hset h (m + 11) j y) m A := W.beside (Or.inr (Or.inr (Or.inr ⟨by omega, by omega⟩)))
theorem o_comeRound (hl : G.1.stackTraces = false) (hm : G.n0 ≤ m) (W : WldAt h m A) (F : Wf A) (L : MLawOk G h m T) (H : AtC h m A (nP A)) {s : Nat} (S : Sub A s) : EvM G m_Mo_comeRound [.ref m, .int (nI s)] h (fun o h' => ∃ pt, Pts A s pt ∧ o = .inl (some (.int (rgF s pt (nP A)))) ∧ WldAt h' m A ∧ Fs (mB m) h h' ∧ ∀ p, s.testBit p = true → h'.2.1 (m + 11) p = .int (nI (pt p))) := by
  have b7 := F.1.2.1
  have b10 := F.1.2.2.2
  have kL : ∀ {g : Hp}, Fs (mB m) h g → MLawOk G g m T := fun Fg => L.keepU (Fg.mono (fun _ _ => mB_U))
  have kH : ∀ {g : Hp}, Fs (mB m) h g → AtC g m A (nP A) := fun Fg => H.keep (fun j => Fg.2.2 _ _ (by unfold mB mW; omega))
  refine en_Mo_comeRound h _ _ _ (e_Mo_comeRound_0 hl h _ _ _ ?_)
  refine for_up (Q := fun p => ∀ (g : Hp) (pt : Nat → Nat), WldAt g m A → Fs (mB m) h g → (∀ q, q < p → s.testBit q = true → (s.testBit (pt q) = true ∧ (pt q = q ∨ rk A q < rk A (pt q))) ∧ g.2.1 (m + 11) q = .int (nI (pt q))) → Ev G m_Mo_comeRound 2 [.ref m, .int (nI s), .int (nI p), un, un, un] [] g 0 0 (fun o h' => ∃ pt, Pts A s pt ∧ o = .inl (some (.int (rgF s pt (nP A)))) ∧ WldAt h' m A ∧ Fs (mB m) h h' ∧ ∀ p, s.testBit p = true → h'.2.1 (m + 11) p = .int (nI (pt p)))) (n := nP A) ?_ (fun p hp ih => ?_) 0 (Nat.zero_le _) h id W Fs.rf (fun q hq => by omega)
  · intro g pt Wg Fg P
    have Pt : Pts A s pt := fun q hq => (P q (S.p hq) hq).1
    have cont : ∀ p, s.testBit p = true → g.2.1 (m + 11) p = .int (nI (pt p)) := fun q hq => (P q (S.p hq) hq).2
    have ap : ∀ q, s.testBit q = true → aI g 101 (m + 11) (nI q) (nI (pt q)) := fun q hq => by
      have := S.p hq
      exact aI_of Wg.s11 (by omega) (by decide) (cont q hq)
    refine e_Mo_comeRound_2 hl g _ _ _ _ ⟨Wg.kd, _, o_people hl Wg, fun _ => ?_, fun c => absurd F.1.end_P c⟩
    refine for_up (Q := fun p => Ev G m_Mo_comeRound 90 [.ref m, .int (nI s), .int (lp (rgS s pt) p 0), .int (nI p), un, un] [] g 0 0 (fun o h' => ∃ pt, Pts A s pt ∧ o = .inl (some (.int (rgF s pt (nP A)))) ∧ WldAt h' m A ∧ Fs (mB m) h h' ∧ ∀ p, s.testBit p = true → h'.2.1 (m + 11) p = .int (nI (pt p)))) (n := nP A) ?_ (fun p hp ih => ?_) 0 (Nat.zero_le _)
    · exact e_Mo_comeRound_90 hl g _ _ _ _ _ ⟨Wg.kd, _, o_people hl Wg, fun _ => ⟨pt, Pt, rfl, Wg, Fg, cont⟩, fun c => absurd F.1.end_P c⟩
    · have ih' : ∀ y, rgS s pt p (lp (rgS s pt) p 0) = y → Ev G m_Mo_comeRound 90 [.ref m, .int (nI s), .int y, .int (nI p + 1), un, un] [] g 0 0 (fun o h' => ∃ pt, Pts A s pt ∧ o = .inl (some (.int (rgF s pt (nP A)))) ∧ WldAt h' m A ∧ Fs (mB m) h h' ∧ ∀ p, s.testBit p = true → h'.2.1 (m + 11) p = .int (nI (pt p))) := fun y e => by rw [nI_1, ← e]; exact ih
      have no : ∀ {y : Int32}, ¬ (s.testBit p = true ∧ pt p = p) → rgS s pt p y = y := fun q => by unfold rgS; rw [if_neg q]
      have ys : ∀ {y : Int32}, (s.testBit p = true ∧ pt p = p) → rgS s pt p y = y ||| sh1 p := fun q => by unfold rgS; rw [if_pos q]
      refine e_Mo_comeRound_90 hl g _ _ _ _ _ ⟨Wg.kd, _, o_people hl Wg, fun c => absurd c (F.1.in_P hp), fun _ => ?_⟩
      by_cases pb : s.testBit p = true
      · have hb : ∀ (q : (if (nI s >>> (nI p &&& 31)) &&& 1 = 1 then (1 : Int32) else 0) = 0), False := fun q => ite0 q ((bit1_t (x := nI s) (by omega : p < 32)).mpr (by rw [bt_nI (by omega)]; exact pb))
        obtain ⟨p1, p2⟩ := Pt p pb
        have p1n := S.p p1
        by_cases self : pt p = p
        · /- by himself, again and again -/
          suffices hh : ∀ e k y, k + e = 7 → (y = lp (rgS s pt) p 0 ∧ 0 < e ∨ y = lp (rgS s pt) p 0 ||| sh1 p) → Ev G m_Mo_comeRound 104 [.ref m, .int (nI s), .int y, .int (nI p), .int (nI p), .int (nI k)] [] g 0 0 (fun o h' => ∃ pt, Pts A s pt ∧ o = .inl (some (.int (rgF s pt (nP A)))) ∧ WldAt h' m A ∧ Fs (mB m) h h' ∧ ∀ p, s.testBit p = true → h'.2.1 (m + 11) p = .int (nI (pt p))) from hh 7 0 _ (by omega) (Or.inl ⟨rfl, by decide⟩)
          intro e
          induction e with
          | zero =>
            intro k y hk hy
            have hy' : y = lp (rgS s pt) p 0 ||| sh1 p := by
              rcases hy with ⟨-, z⟩ | z
              · omega
              · exact z
            exact e_Mo_comeRound_104 hl g _ _ _ _ _ _ _ ⟨fun _ => ih' _ (by rw [hy', ys ⟨pb, self⟩]), fun c => absurd (nI_le (a := 7) (by omega) (by omega)) c⟩
          | succ e ihe =>
            intro k y hk hy
            have ev : y ||| (1 : Int32) <<< (nI p &&& 31) = lp (rgS s pt) p 0 ||| sh1 p := by
              rcases hy with ⟨z, -⟩ | z
              · rw [z]; rfl
              · rw [z]
                exact b_ext (fun i hi => by
                  rw [b_or, b_or, show (1 : Int32) <<< (nI p &&& 31) = sh1 p from rfl]
                  cases bt (lp (rgS s pt) p 0) i <;> cases bt (sh1 p) i <;> rfl)
            have a1 : aI g 101 (m + 11) (nI p) (nI p) := by have := ap p pb; rw [self] at this; exact this
            refine e_Mo_comeRound_104 hl g _ _ _ _ _ _ _ ⟨fun c => absurd c (nI_ge (b := 7) (by omega) (by decide)), fun _ => ⟨_, o_has hl _ _, fun c => (hb c).elim, fun _ => ⟨_, Wg.r20, _, a1, fun c => absurd rfl c, fun _ => ?_⟩⟩⟩
            rw [nI_1, ev]; exact ihe (k + 1) _ (by omega) (Or.inr rfl)
        · /- never again by himself -/
          have up : rk A p < rk A (pt p) := p2.resolve_left self
          suffices hh : ∀ e k q, k + e = 7 → s.testBit q = true → (q = p ∨ rk A p < rk A q) → Ev G m_Mo_comeRound 104 [.ref m, .int (nI s), .int (lp (rgS s pt) p 0), .int (nI p), .int (nI q), .int (nI k)] [] g 0 0 (fun o h' => ∃ pt, Pts A s pt ∧ o = .inl (some (.int (rgF s pt (nP A)))) ∧ WldAt h' m A ∧ Fs (mB m) h h' ∧ ∀ p, s.testBit p = true → h'.2.1 (m + 11) p = .int (nI (pt p))) from hh 7 0 p (by omega) pb (Or.inl rfl)
          intro e
          induction e with
          | zero =>
            intro k q hk _ _
            exact e_Mo_comeRound_104 hl g _ _ _ _ _ _ _ ⟨fun _ => ih' _ (no (fun z => self z.2)), fun c => absurd (nI_le (a := 7) (by omega) (by omega)) c⟩
          | succ e ihe =>
            intro k q hk qb qr
            obtain ⟨q1, q2⟩ := Pt q qb
            have qr' : rk A p < rk A (pt q) := by
              rcases qr with y | y
              · rw [y]; exact up
              · rcases q2 with w | w
                · rw [w]; exact y
                · omega
            have q1n := S.p q1
            refine e_Mo_comeRound_104 hl g _ _ _ _ _ _ _ ⟨fun c => absurd c (nI_ge (b := 7) (by omega) (by decide)), fun _ => ⟨_, o_has hl _ _, fun c => (hb c).elim, fun _ => ⟨_, Wg.r20, _, ap q qb, fun _ => ?_, fun y => ?_⟩⟩⟩
            · rw [nI_1, Int32.or_zero]; exact ihe (k + 1) (pt q) (by omega) q1 (Or.inr qr')
            · have y' := (nI_eq (by omega) (by omega)).mp y
              rw [y'] at qr'; omega
      · refine e_Mo_comeRound_104 hl g _ _ _ _ _ _ _ ⟨fun c => absurd c (by decide), fun _ => ⟨_, o_has hl _ _, fun _ => ih' _ (no (fun z => pb z.1)), fun c => ?_⟩⟩
        have := (bit1_t (x := nI s) (by omega : p < 32)).mp (ite1 c)
        rw [bt_nI (by omega)] at this; exact absurd this pb
  · intro g pt Wg Fg P
    have p7 : p < 7 := by omega
    refine e_Mo_comeRound_2 hl g _ _ _ _ ⟨Wg.kd, _, o_people hl Wg, fun c => absurd c (F.1.in_P hp), fun _ => ⟨_, Wg.r20, aW_of (by omega) Wg.s11 p7 (by decide), ?_⟩⟩
    rw [nI_clamp (by omega)]
    refine e_Mo_comeRound_17 hl _ _ _ _ _ ?_
    by_cases pb : s.testBit p = true
    · have hb : ∀ (q : (if (nI s >>> (nI p &&& 31)) &&& 1 = 1 then (1 : Int32) else 0) = 0), False := fun q => ite0 q ((bit1_t (x := nI s) (by omega : p < 32)).mpr (by rw [bt_nI (by omega)]; exact pb))
      suffices hh : ∀ d o (g' : Hp) (c : Int32), o + d = nP A → WldAt g' m A → Fs (mB m) h g' → (∀ q, q < p → s.testBit q = true → g'.2.1 (m + 11) q = .int (nI (pt q))) → g'.2.1 (m + 11) p = .int c → (c = -1 ∧ o ≤ p ∨ ∃ q, c = nI q ∧ s.testBit q = true ∧ (q < p ∧ o ≤ p ∨ q = p ∨ rk A p < rk A q)) → Ev G m_Mo_comeRound 19 [.ref m, .int (nI s), .int (nI p), .int (nI o), un, un] [] g' 0 0 (fun o h' => ∃ pt, Pts A s pt ∧ o = .inl (some (.int (rgF s pt (nP A)))) ∧ WldAt h' m A ∧ Fs (mB m) h h' ∧ ∀ p, s.testBit p = true → h'.2.1 (m + 11) p = .int (nI (pt p))) from hh (nP A) 0 _ (-1) (by omega) Wg.ptr (Fg.set (Or.inr rfl)) (fun q hq qb => by rw [hs_ne (by omega)]; exact (P q hq qb).2) hs_eq (Or.inl ⟨rfl, by omega⟩)
      intro d
      induction d with
      | zero =>
        intro o g' c ho W' F' cl cp hc
        have on : o = nP A := ho
        obtain ⟨q, rfl, qb, hq⟩ : ∃ q, c = nI q ∧ s.testBit q = true ∧ (q = p ∨ rk A p < rk A q) := by
          rcases hc with ⟨-, z⟩ | ⟨q, e, qb, hq⟩
          · omega
          · exact ⟨q, e, qb, by
              rcases hq with z | z
              · omega
              · exact z⟩
        refine e_Mo_comeRound_19 hl g' _ _ _ _ _ ⟨W'.kd, _, o_people hl W', fun _ => ?_, fun c => absurd (by rw [on]; exact F.1.end_P) c⟩
        rw [nI_1]
        refine ih g' (fun i => if i = p then q else pt i) W' F' (fun i hi ib => ?_)
        by_cases z : i = p
        · subst z; rw [if_pos rfl]; exact ⟨⟨qb, hq⟩, cp⟩
        · rw [if_neg z]; exact ⟨(P i (by omega) ib).1, cl i (by omega) ib⟩
      | succ d ihd =>
        intro o g' c ho W' F' cl cp hc
        have on : o < nP A := by omega
        have aw : ∀ {g'' : Hp}, WldAt g'' m A → aW G g'' 101 (m + 11) (nI p) := fun W'' => aW_of (by omega) W''.s11 p7 (by decide)
        have st : ∀ (g'' : Hp) (c' : Int32), WldAt g'' m A → Fs (mB m) h g'' → (∀ q, q < p → s.testBit q = true → g''.2.1 (m + 11) q = .int (nI (pt q))) → (c' = -1 ∧ o + 1 ≤ p ∨ ∃ q, c' = nI q ∧ s.testBit q = true ∧ (q < p ∧ o + 1 ≤ p ∨ q = p ∨ rk A p < rk A q)) → Ev G m_Mo_comeRound 74 [.ref m, .int (nI s), .int (nI p), .int (nI o), un, un] [] (hset g'' (m + 11) (nI p).toNatClampNeg (.int c')) 0 0 (fun o h' => ∃ pt, Pts A s pt ∧ o = .inl (some (.int (rgF s pt (nP A)))) ∧ WldAt h' m A ∧ Fs (mB m) h h' ∧ ∀ p, s.testBit p = true → h'.2.1 (m + 11) p = .int (nI (pt p))) := fun g'' c' W'' F'' cl'' hc' => by
          rw [nI_clamp (by omega)]
          refine e_Mo_comeRound_74 hl _ _ _ _ _ _ ?_
          rw [nI_1]
          exact ihd (o + 1) _ c' (by omega) W''.ptr (F''.set (Or.inr rfl)) (fun q hq qb => by rw [hs_ne (by omega)]; exact cl'' q hq qb) hs_eq hc'
        refine e_Mo_comeRound_19 hl g' _ _ _ _ _ ⟨W'.kd, _, o_people hl W', fun c => absurd c (F.1.in_P on), fun _ => ⟨_, o_has hl _ _, fun c => (hb c).elim, fun _ => ⟨_, W'.r20, _, o_has hl _ _, fun c1 => ?_, fun c1 => ?_⟩⟩⟩
        · have ob : ¬ s.testBit o = true := fun z => ite0 c1 ((bit1_t (x := nI s) (by omega : o < 32)).mpr (by rw [bt_nI (by omega)]; exact z))
          refine ⟨_, W'.r20, _, aI_of W'.s11 p7 (by decide) cp, aw W', st g' c W' F' cl ?_⟩
          have op : o ≠ p := fun z => ob (z ▸ pb)
          rcases hc with ⟨e, z⟩ | ⟨q, e, qb, hq⟩
          · exact Or.inl ⟨e, by omega⟩
          · exact Or.inr ⟨q, e, qb, by
              rcases hq with z | z
              · exact Or.inl (by omega)
              · exact Or.inr z⟩
        · have ob : s.testBit o = true := by
            have := (bit1_t (x := nI s) (by omega : o < 32)).mp (ite1 c1)
            rw [bt_nI (by omega)] at this; exact this
          have ho1 := S.2 o ob
          refine ⟨_, W'.r20, _, aI_of W'.s11 p7 (by decide) cp, W'.kd, _, o_likes hl W' F (kL F') (kH F') hp on ho1 (by
            rcases hc with ⟨e, -⟩ | ⟨q, e, qb, -⟩
            · exact Or.inl e
            · exact Or.inr ⟨q, S.p qb, e, S.2 q qb⟩), fun o1 h1 z => Or.inl ?_⟩
          obtain ⟨z1, W1, F1⟩ := z
          have F1' : Fs (mB m) h h1 := F'.tr (F1.mono (fun a j q => Or.inl q))
          have k11 : ∀ j, h1.2.1 (m + 11) j = g'.2.1 (m + 11) j := fun j => F1.2.2 _ _ (by unfold mW; omega)
          have cl1 : ∀ q, q < p → s.testBit q = true → h1.2.1 (m + 11) q = .int (nI (pt q)) := fun q hq qb => by rw [k11]; exact cl q hq qb
          refine ⟨_, z1, fun e => ⟨_, W1.r20, c, aI_of W1.s11 p7 (by decide) (by rw [k11]; exact cp), aw W1, st h1 c W1 F1' cl1 ?_⟩, fun e => ⟨aw W1, st h1 (nI o) W1 F1' cl1 (Or.inr ⟨o, rfl, ob, ?_⟩)⟩⟩
          · /- kept -/
            rcases hc with ⟨e1, z⟩ | ⟨q, e1, qb, hq⟩
            · refine Or.inl ⟨e1, ?_⟩
              by_cases y : o = p
              · exfalso
                unfold lkF at e
                rw [if_pos (Or.inl y), if_pos e1] at e; exact absurd e (by decide)
              · omega
            · refine Or.inr ⟨q, e1, qb, ?_⟩
              have qn := S.p qb
              rcases hq with ⟨z1, z2⟩ | z
              · by_cases y : o = p
                · refine Or.inr (Or.inr ?_)
                  unfold lkF at e
                  rw [if_pos (Or.inl y), e1, if_neg (m1_ne (by omega)), nI_clamp (by omega)] at e
                  have l1 := ite0 e
                  have l2 := rk_ne F hp qn (S.2 p pb) (S.2 q qb) (by omega)
                  subst y
                  unfold rk at l2 ⊢; omega
                · exact Or.inl (by omega)
              · exact Or.inr z
          · /- taken -/
            rcases Nat.lt_trichotomy o p with y | y | y
            · exact Or.inl (by omega)
            · exact Or.inr (Or.inl y)
            · refine Or.inr (Or.inr ?_)
              rcases hc with ⟨e1, z⟩ | ⟨q, e1, qb, hq⟩
              · omega
              · have qn := S.p qb
                have l : rk A q < rk A o := by
                  unfold lkF at e
                  rw [e1, if_neg (m1_ne (by omega)), nI_clamp (by omega)] at e
                  split at e
                  · exact ite1 e
                  · exact absurd rfl e
                rcases hq with ⟨z1, z2⟩ | z | z
                · omega
                · rw [z] at l; exact l
                · omega
    · rw [show (0 : Int32) = nI 0 from rfl]
      refine e_Mo_comeRound_19 hl _ _ _ _ _ _ ⟨Wg.ptr.kd, _, o_people hl Wg.ptr, fun c => absurd c (fun q => F.1.in_P (by omega : 0 < nP A) q), fun _ => ⟨_, o_has hl _ _, fun _ => ?_, fun c => ?_⟩⟩
      · rw [nI_1]
        refine ih _ pt Wg.ptr (Fg.set (Or.inr rfl)) (fun i hi ib => ?_)
        have z : i ≠ p := fun z => pb (z ▸ ib)
        exact ⟨(P i (by omega) ib).1, by rw [hs_ne (by omega)]; exact (P i (by omega) ib).2⟩
      · have := (bit1_t (x := nI s) (by omega : p < 32)).mp (ite1 c)
        rw [bt_nI (by omega)] at this; exact absurd this pb
end CORE2
