/-! ===== who is put what: the reference ===== -/
def PwC (h : Hp) (m : Nat) (T : Tt) (A : Vs) (q0 : Nat) : Prop := ∀ q k, q0 ≤ q → q ≤ nP A → k < 2 ^ nT A → h.2.1 (m + 12) (q * 1024 + k) = .int (nI (pmA T A (nP A - q) q k))
def StC (h : Hp) (m : Nat) (T : Tt) (A : Vs) (n : Nat) : Prop := ∀ q, q < n → h.2.1 (m + 13) q = .int (nI (gN T A q))
theorem or_sh {k t : Nat} (ht : t < 32) : nI k ||| sh1 t = nI (k ||| 2 ^ t) := b_ext (fun i hi => by
  rw [b_or, bt_nI hi, bt_nI hi, b_sh1 ht hi, or_bit]
  congr 1
  exact decide_eq_decide.mpr ⟨Eq.symm, Eq.symm⟩)
theorem two_nT {A : Vs} (B : Bd A) : 2 ^ nT A ≤ 1024 := by
  have := Nat.pow_le_pow_right (n := 2) (by decide) B.2.2.2
  exact this
theorem or_lt {k t n : Nat} (hk : k < 2 ^ n) (ht : t < n) : k ||| 2 ^ t < 2 ^ n := Nat.or_lt_two_pow hk (Nat.pow_lt_pow_right (by decide) ht)
section PUT3
variable {G : Gx} {h h' h1 : Hp} {x la m v : Nat} {A A' : Vs} {T : Tt} {ln : Int32} {im im' : Option Sv} {pa pa' : Nat → Vs} {r r' : Nat} {b : Nat → Nat} {n : Nat} {fl : Int32} {od : Nat → Nat} {q : Nat}
theorem WldAt.r21 (W : WldAt h m A) : fR h 11 m 21 (m + 12) := ⟨W.kd, W.1.1.2.2.2.2.2.2.2.2.2.2.2.2.1⟩
theorem WldAt.r22 (W : WldAt h m A) : fR h 11 m 22 (m + 13) := ⟨W.kd, W.1.1.2.2.2.2.2.2.2.2.2.2.2.2.2.1⟩
theorem WldAt.r24 (W : WldAt h m A) : fR h 11 m 24 (m + 15) := ⟨W.kd, W.1.1.2.2.2.2.2.2.2.2.2.2.2.2.2.2.2⟩
theorem WldAt.s12 (W : WldAt h m A) : h.1 (m + 12) = (101, 8192) := W.1.2.2.2.2.2.2.2.2.2.2.2.2.1
theorem WldAt.s13 (W : WldAt h m A) : h.1 (m + 13) = (101, 7) := W.1.2.2.2.2.2.2.2.2.2.2.2.2.2.1
theorem WldAt.s15 (W : WldAt h m A) : h.1 (m + 15) = (101, 128) := W.1.2.2.2.2.2.2.2.2.2.2.2.2.2.2.2
theorem o_putAt (hl : G.1.stackTraces = false) {p k : Nat} (hp : p < 1024) : EvI G m_Mo_putAt [.int (nI p), .int (nI k)] h (nI (p * 1024 + k)) :=
  en_Mo_putAt h _ _ _ (e_Mo_putAt_0 hl h _ _ _ ⟨by rw [pk_shlN ((10 : Int32) &&& 31) 10 rfl (by omega), nI_add], rfl⟩)
theorem o_putIf0 (hl : G.1.stackTraces = false) (W : WldAt h m A) (F : Wf A) (P : PwC h m T A q) {p k : Nat} (hq : q = p + 1) (hp : p < nP A) (hk : k < 2 ^ nT A) : EvI G m_Mo_putIf [.ref m, .int (nI p), .int (nI k), .int (-1)] h (nI (pmA T A (nP A - (p + 1)) (p + 1) k)) := by
  have b7 := F.1.2.1
  have t10 := two_nT F.1
  exact en_Mo_putIf h _ _ _ _ _ (e_Mo_putIf_0 hl h _ _ _ _ _ ⟨fun c => absurd rfl c, fun _ => ⟨_, W.r21, nI ((p + 1) * 1024 + k), by rw [nI_1]; exact o_putAt hl (by omega), _, aI_of W.s12 (by omega) (by decide) (P (p + 1) k (by omega) (by omega) hk), rfl, rfl⟩⟩)
theorem o_putIf1 (hl : G.1.stackTraces = false) (W : WldAt h m A) (F : Wf A) (P : PwC h m T A q) (S : StC h m T A (nP A)) {p k t : Nat} (hq : q = p + 1) (hp : p < nP A) (hk : k < 2 ^ nT A) (ht : t < nT A) : EvI G m_Mo_putIf [.ref m, .int (nI p), .int (nI k), .int (nI t)] h (if k.testBit t = false ∧ lvB A p = true ∧ zN A t ≤ gN T A p then nI (wN A t + pmA T A (nP A - (p + 1)) (p + 1) (k ||| 2 ^ t)) else -1) := by
  have b7 := F.1.2.1
  have b10 := F.1.2.2.2
  have t10 := two_nT F.1
  have az := zN_nI F ht
  have aw := wN_nI F ht
  have gp := gN_nI T A p
  have p7 : p < 7 := by omega
  have ol := or_lt hk ht
  refine en_Mo_putIf h _ _ _ _ _ (e_Mo_putIf_0 hl h _ _ _ _ _ ⟨fun _ => ⟨_, o_has hl (nI k) (nI t), fun c => ⟨?_, rfl⟩, fun c => ⟨W.kd, _, o_lives hl W p7, fun d => ⟨?_, rfl⟩, fun d => ⟨_, W.r22, nI (gN T A p), aI_of W.s13 p7 (by decide) (S p hp), W.kd, nI (zN A t), by rw [← az.1]; exact o_ofThing hl W (by omega) (f := 1) (by decide), fun e => ⟨W.kd, nI (wN A t), by rw [← aw.1]; exact o_ofThing hl W (by omega) (f := 0) (by decide), _, W.r21, nI ((p + 1) * 1024 + (k ||| 2 ^ t)), ?_, _, aI_of W.s12 (by omega) (by decide) (P (p + 1) _ (by omega) (by omega) ol), ?_, rfl⟩, fun e => ⟨?_, rfl⟩⟩⟩⟩, fun c => absurd c (m1_ne (by omega))⟩)
  · have : k.testBit t = true := by
      have := ite1 c
      have := (bit1_t (x := nI k) (by omega : t < 32)).mp this
      rw [bt_nI (by omega)] at this; exact this
    rw [if_neg (fun q => by rw [this] at q; exact absurd q.1 (by decide))]
  · rw [if_neg (fun q => ite0 d (of_decide_eq_true q.2.1))]
  · rw [show nI k ||| (1 : Int32) <<< (nI t &&& 31) = nI (k ||| 2 ^ t) from or_sh (by omega), nI_1]; exact o_putAt hl (by omega)
  · have c1 : k.testBit t = false := by
      have := ite0 c
      cases q : k.testBit t with
      | false => rfl
      | true => exact absurd ((bit1_t (x := nI k) (by omega : t < 32)).mpr (by rw [bt_nI (by omega)]; exact q)) this
    rw [if_pos ⟨c1, by unfold lvB; exact decide_eq_true (ite1 d), (nI_leI (by omega) gp.2).mp e⟩, nI_add]
  · rw [if_neg (fun q => e (nI_le q.2.2 gp.2))]
theorem mU_12 {a j : Nat} (h : a = m + 12 ∨ a = m + 13) : mU m a j := by unfold mU; omega
theorem WldAt.beside (W : WldAt h m A) {a j : Nat} {y : Value} (ha : a = m + 12 ∨ a = m + 13 ∨ a = m + 15 ∨ (m + 9 ≤ a ∧ a ≤ m + 11)) : WldAt (hset h a j y) m A := W.keep (fun b _ _ => rfl) (fun i _ => by rw [hs_ne (by omega)]) (fun i _ => by rw [hs_ne (by omega)])
theorem PwC.keep (P : PwC h m T A q) (e : ∀ j, h'.2.1 (m + 12) j = h.2.1 (m + 12) j) : PwC h' m T A q := fun a k h1 h2 h3 => by rw [e]; exact P a k h1 h2 h3
theorem MT.rd (X : MT G h m A T ln im pa r b n fl) (W : WldAt h' m A) (F : Fs (mU m) h h') : MT G h' m A T ln im pa r b n fl := X.act (X.1.rd W F) (F.mono (fun _ _ => mU_A))
theorem mU_Z (F : Fs (mU m) h h') : Fs (mZ m) h h' := F.mono (fun a j z => by unfold mU mW at z; unfold mZ; omega)
theorem MLawOk.keepU (L : MLawOk G h m T) (F : Fs (mU m) h h') : MLawOk G h' m T := fun h2 e => L h2 (fun j hj => by rw [e j hj]; exact F.2.2 _ _ (by unfold mU mW; omega))
/-- rows and strengths; then the answer -/
theorem o_put42 (hl : G.1.stackTraces = false) (hm : G.n0 ≤ m) (W : WldAt h m A) (F : Wf A) (L : MLawOk G h m T) (l : Int32) {P : Res → Hp → Prop} (fin : ∀ g, Fs (mU m) h g → g.2.1 m 0 = h.2.1 m 0 → WldAt g m A → StC g m T A (nP A) → PwC g m T A 0 → Ev G m_Mo_put 101 [.ref m, .int l, .int (nI (2 ^ nT A)), .int (-1), un, un, un] [] g 0 0 P) : Ev G m_Mo_put 42 [.ref m, .int l, .int (nI (2 ^ nT A)), .int 0, un, un, un] [] h 0 0 P := by
  have b7 := F.1.2.1
  have b10 := F.1.2.2.2
  have t10 := two_nT F.1
  have pb := fun d p k => pmA_b (T := T) F d p k
  refine for_up (Q := fun p => ∀ g, Fs (mU m) h g → g.2.1 m 0 = h.2.1 m 0 → WldAt g m A → StC g m T A p → Ev G m_Mo_put 42 [.ref m, .int l, .int (nI (2 ^ nT A)), .int (nI p), un, un, un] [] g 0 0 P) (n := nP A) ?_ (fun p hp ih => ?_) 0 (Nat.zero_le _) h Fs.rf rfl W (fun q hq => by omega)
  · intro g Fg e0 Wg Sg
    refine e_Mo_put_42 hl g _ _ _ _ _ ⟨Wg.kd, _, o_people hl Wg, fun _ => ?_, fun c => absurd F.1.end_P c⟩
    refine for_up (Q := fun k => ∀ g, Fs (mU m) h g → g.2.1 m 0 = h.2.1 m 0 → WldAt g m A → StC g m T A (nP A) → (∀ k', k' < k → g.2.1 (m + 12) (nP A * 1024 + k') = .int 0) → Ev G m_Mo_put 69 [.ref m, .int l, .int (nI (2 ^ nT A)), .int (nI k), un, un, un] [] g 0 0 P) (n := 2 ^ nT A) ?_ (fun k hk ih => ?_) 0 (Nat.zero_le _) g Fg e0 Wg Sg (fun k' hk' => by omega)
    · intro g Fg e0 Wg Sg hz
      refine e_Mo_put_69 hl g _ _ _ _ _ ⟨fun _ => ⟨Wg.kd, _, o_people hl Wg, ?_⟩, fun c => absurd (Int32.le_refl _) c⟩
      rw [F.1.1]
      /- people from the last on -/
      suffices hh : ∀ q g, q ≤ nP A → Fs (mU m) h g → g.2.1 m 0 = h.2.1 m 0 → WldAt g m A → StC g m T A (nP A) → PwC g m T A q → Ev G m_Mo_put 101 [.ref m, .int l, .int (nI (2 ^ nT A)), .int (nI q - 1), un, un, un] [] g 0 0 P from hh (nP A) g (Nat.le_refl _) Fg e0 Wg Sg (fun q k h1 h2 h3 => by
        rw [show q = nP A by omega, Nat.sub_self]; exact hz k h3)
      intro q
      induction q with
      | zero => intro g _ Fg e0 Wg Sg Pg; exact fin g Fg e0 Wg Sg Pg
      | succ p ihp =>
        intro g hp Fg e0 Wg Sg Pg
        rw [nI_pred]
        have p7 : p < 7 := by omega
        refine e_Mo_put_101 hl g _ _ _ _ _ ⟨fun c => absurd c (nI_pos (by omega)), fun _ => ?_⟩
        refine for_up (Q := fun k => ∀ g, Fs (mU m) h g → g.2.1 m 0 = h.2.1 m 0 → WldAt g m A → StC g m T A (nP A) → PwC g m T A (p + 1) → (∀ k', k' < k → g.2.1 (m + 12) (p * 1024 + k') = .int (nI (pmA T A (nP A - p) p k'))) → Ev G m_Mo_put 108 [.ref m, .int l, .int (nI (2 ^ nT A)), .int (nI p), .int (nI k), un, un] [] g 0 0 P) (n := 2 ^ nT A) ?_ (fun k hk ihk => ?_) 0 (Nat.zero_le _) g Fg e0 Wg Sg Pg (fun k' hk' => by omega)
        · intro g Fg e0 Wg Sg Pg hz
          refine e_Mo_put_108 hl g _ _ _ _ _ _ ⟨fun _ => ?_, fun c => absurd (Int32.le_refl _) c⟩
          rw [← Int32.sub_eq_add_neg]
          refine ihp g (by omega) Fg e0 Wg Sg (fun q k h1 h2 h3 => ?_)
          by_cases z : q = p
          · subst z; exact hz k h3
          · exact Pg q k (by omega) h2 h3
        · intro g Fg e0 Wg Sg Pg hz
          have m1 := pb (nP A - (p + 1)) (p + 1) k
          refine e_Mo_put_108 hl g _ _ _ _ _ _ ⟨fun c => absurd c (nI_ge hk (by omega)), fun _ => ?_⟩
          refine e_Mo_put_120 hl g _ _ _ _ _ _ _ _ ⟨Wg.kd, _, o_things hl Wg, fun c => absurd c (by rw [F.1.2.2.1]; exact fun q => absurd (Int32.le_trans (nI_pos' (by omega)) q) (by decide)), fun _ => ⟨Wg.kd, _, o_putIf0 hl Wg F Pg rfl (by omega) hk, ?_⟩⟩
          rw [show imax 0 (nI (pmA T A (nP A - (p + 1)) (p + 1) k)) = nI (pmA T A (nP A - (p + 1)) (p + 1) k) by
            rw [show (0 : Int32) = nI 0 from rfl, imax_nI (by decide) (by omega), Nat.max_eq_right (Nat.zero_le _)], show (-1 : Int32) + 1 = nI 0 from rfl]
          refine for_up (Q := fun t => Ev G m_Mo_put 120 [.ref m, .int l, .int (nI (2 ^ nT A)), .int (nI p), .int (nI k), .int (nI (mx (fun t => !k.testBit t && (lvB A p && decide (zN A t ≤ gN T A p))) (fun t => wN A t + pmA T A (nP A - (p + 1)) (p + 1) (k ||| 2 ^ t)) t (pmA T A (nP A - (p + 1)) (p + 1) k))), .int (nI t)] [] g 0 0 P) (n := nT A) ?_ (fun t ht iht => ?_) 0 (Nat.zero_le _)
          · rw [← pmA_s (by omega)]
            refine e_Mo_put_120 hl g _ _ _ _ _ _ _ _ ⟨Wg.kd, _, o_things hl Wg, fun _ => ⟨_, Wg.r21, _, o_putAt hl (by omega), aW_of (by omega) Wg.s12 (by omega) (by decide), ?_⟩, fun c => absurd F.1.end_T c⟩
            rw [nI_clamp (by omega)]
            refine e_Mo_put_164 hl _ _ _ _ _ _ _ ?_
            rw [nI_1]
            refine ihk _ (Fg.set (mU_12 (Or.inl rfl))) (by rw [hs_ne (by omega)]; exact e0) (Wg.beside (Or.inl rfl)) (fun q hq => by rw [hs_ne (by omega)]; exact Sg q hq) (fun q k' h1 h2 h3 => by rw [hs_ne (by omega)]; exact Pg q k' h1 h2 h3) (fun k' hk' => ?_)
            by_cases z : k' = k
            · subst z; exact hs_eq
            · rw [hs_ne (by omega)]; exact hz k' (by omega)
          · have aw := wN_nI F ht
            have m3 := pb (nP A - (p + 1)) (p + 1) (k ||| 2 ^ t)
            have mb : mx (fun t => !k.testBit t && (lvB A p && decide (zN A t ≤ gN T A p))) (fun t => wN A t + pmA T A (nP A - (p + 1)) (p + 1) (k ||| 2 ^ t)) t (pmA T A (nP A - (p + 1)) (p + 1) k) ≤ 1000 := (mx_le t).mpr ⟨by omega, fun i hi _ => by
              have := (wN_nI F (by omega : i < nT A)).2
              have := pb (nP A - (p + 1)) (p + 1) (k ||| 2 ^ i); omega⟩
            refine e_Mo_put_120 hl g _ _ _ _ _ _ _ _ ⟨Wg.kd, _, o_things hl Wg, fun c => absurd c (F.1.in_T ht), fun _ => ⟨Wg.kd, _, o_putIf1 hl Wg F Pg Sg rfl (by omega) hk ht, ?_⟩⟩
            rw [nI_1]
            have es : mx (fun t => !k.testBit t && (lvB A p && decide (zN A t ≤ gN T A p))) (fun t => wN A t + pmA T A (nP A - (p + 1)) (p + 1) (k ||| 2 ^ t)) (t + 1) (pmA T A (nP A - (p + 1)) (p + 1) k) = if (!k.testBit t && (lvB A p && decide (zN A t ≤ gN T A p))) = true then max (mx (fun t => !k.testBit t && (lvB A p && decide (zN A t ≤ gN T A p))) (fun t => wN A t + pmA T A (nP A - (p + 1)) (p + 1) (k ||| 2 ^ t)) t (pmA T A (nP A - (p + 1)) (p + 1) k)) (wN A t + pmA T A (nP A - (p + 1)) (p + 1) (k ||| 2 ^ t)) else mx (fun t => !k.testBit t && (lvB A p && decide (zN A t ≤ gN T A p))) (fun t => wN A t + pmA T A (nP A - (p + 1)) (p + 1) (k ||| 2 ^ t)) t (pmA T A (nP A - (p + 1)) (p + 1) k) := rfl
            rw [es] at iht
            by_cases c : k.testBit t = false ∧ lvB A p = true ∧ zN A t ≤ gN T A p
            · rw [if_pos (cB.mpr c)] at iht
              rw [if_pos c, imax_nI (by omega) (by omega)]; exact iht
            · rw [if_neg (fun z => c (cB.mp z))] at iht
              rw [if_neg c, show imax (nI (mx (fun t => !k.testBit t && (lvB A p && decide (zN A t ≤ gN T A p))) (fun t => wN A t + pmA T A (nP A - (p + 1)) (p + 1) (k ||| 2 ^ t)) t (pmA T A (nP A - (p + 1)) (p + 1) k))) (-1) = nI (mx (fun t => !k.testBit t && (lvB A p && decide (zN A t ≤ gN T A p))) (fun t => wN A t + pmA T A (nP A - (p + 1)) (p + 1) (k ||| 2 ^ t)) t (pmA T A (nP A - (p + 1)) (p + 1) k)) by
                unfold imax; rw [if_neg (fun q => absurd (Int32.lt_trans q (by decide : (-1 : Int32) < 0)) (nI_pos (by omega)))]]
              exact iht
    · intro g Fg e0 Wg Sg hz
      refine e_Mo_put_69 hl g _ _ _ _ _ ⟨fun c => absurd c (nI_ge hk (by omega)), fun _ => ⟨_, Wg.r21, Wg.kd, nI (nP A), by rw [← F.1.1]; exact o_people hl Wg, _, o_putAt hl (by omega), aW_of (by omega) Wg.s12 (by omega) (by decide), ?_⟩⟩
      rw [nI_clamp (by omega)]
      refine e_Mo_put_88 hl _ _ _ _ _ _ ?_
      rw [nI_1]
      refine ih _ (Fg.set (mU_12 (Or.inl rfl))) (by rw [hs_ne (by omega)]; exact e0) (Wg.beside (Or.inl rfl)) (fun q hq => by rw [hs_ne (by omega)]; exact Sg q hq) (fun k' hk' => ?_)
      by_cases z : k' = k
      · subst z; exact hs_eq
      · rw [hs_ne (by omega)]; exact hz k' (by omega)
  · intro g Fg e0 Wg Sg
    have p7 := F.1.P7 hp
    have gp := gN_nI T A p
    refine e_Mo_put_42 hl g _ _ _ _ _ ⟨Wg.kd, _, o_people hl Wg, fun c => absurd c (F.1.in_P hp), fun _ => ⟨_, Wg.r22, Wg.kd, _, o_gripsOf hl Wg F (L.keepU Fg) hp, fun o1 h1 z => Or.inl ⟨_, z.1, ?_⟩⟩⟩
    obtain ⟨-, W1, F1⟩ := z
    have k13 : ∀ j, h1.2.1 (m + 13) j = g.2.1 (m + 13) j := fun j => F1.2.2 _ _ (by unfold mW; omega)
    refine ⟨aW_of (by omega) W1.s13 p7 (by decide), ?_⟩
    rw [nI_clamp (by omega), gp.1]
    refine e_Mo_put_61 hl _ _ _ _ _ _ ?_
    rw [nI_1]
    refine ih _ ((Fg.tr (F1.mono (fun _ _ => mW_U))).set (mU_12 (Or.inr rfl))) (by rw [hs_ne (by omega), F1.2.2 m 0 (by unfold mW; omega)]; exact e0) (W1.beside (Or.inr (Or.inl rfl))) (fun q hq => ?_)
    by_cases z : q = p
    · subst z; exact hs_eq
    · rw [hs_ne (by omega), k13]; exact Sg q (by omega)
theorem pt_lt {A : Vs} (T : Tt) : ∀ p, p ≤ nP A → (lp (ptS T A) p (0, -1)).1 < 2 ^ nT A
  | 0, _ => Nat.two_pow_pos _
  | p + 1, hp => by
    have ih := pt_lt (A := A) T p (by omega)
    show (ptS T A p (lp (ptS T A) p (0, -1))).1 < _
    unfold ptS
    rcases ch_sp (T := T) (A := A) (p := p) (k := (lp (ptS T A) p (0, -1)).1) (by omega) with ⟨e, -⟩ | ⟨t, t1, e, -⟩
    · rw [show chF T A p (lp (fun p q => (if chF T A p q.1 = -1 then q.1 else q.1 ||| 2 ^ (chF T A p q.1).toNatClampNeg, chF T A p q.1)) p (0, -1)).1 = -1 from e]
      exact ih
    · show (if chF T A p (lp (ptS T A) p (0, -1)).1 = -1 then (lp (ptS T A) p (0, -1)).1 else (lp (ptS T A) p (0, -1)).1 ||| 2 ^ (chF T A p (lp (ptS T A) p (0, -1)).1).toNatClampNeg) < _
      rw [e]
      split
      · exact ih
      · refine or_lt ih ?_
        have : nT A ≤ nT A := Nat.le_refl _
        by_cases q : t < 2 ^ 31
        · rw [nI_clamp q]; exact t1
        · have : (A 0 1).toNatClampNeg < 2 ^ 31 := by
            have := Int32.toNatClampNeg_lt (A 0 1); omega
          unfold nT at t1; omega
theorem p_put (hl : G.1.stackTraces = false) (hm : G.n0 ≤ m) (X : MT G h m A T ln im pa r b n fl) (F : Wf A) (p : Int32) : EvM G m_Mo_put [.ref m, .int p] h (MQt G h m A T ln im pa r b n fl (putQ T A p)) := by
  have b7 := F.1.2.1
  have b10 := F.1.2.2.2
  have t10 := two_nT F.1
  have X0 := X.thr 0
  have F0 : Fs (mU m) h (hset h m 0 (.int 0)) := fU0
  have all : (1 : Int32) <<< (A 0 1 &&& 31) = nI (2 ^ nT A) := by rw [F.1.2.2.1]; exact (all1 _ b10).2
  unfold putQ
  refine en_Mo_put h _ m _ (e_Mo_put_0 hl h _ m _ ⟨⟨hm, X.W.kd⟩, e_Mo_put_5 hl _ _ m _ ⟨fun c => ?_, fun c => ?_⟩⟩)
  · rw [if_pos c]
    refine ⟨X0.W.kd, _, o_thr0 hl 1, fun o h1 z => Or.inl ⟨0, z.1, fun _ => ?_, fun q => absurd rfl q⟩⟩
    rw [z.2]
    refine ⟨X0.W.kd, _, o_things hl X0.W, ?_⟩
    rw [all]
    refine o_put42 hl hm X0.W F X0.1.L _ (fun g Fg e0 Wg Sg Pg => ?_)
    refine e_Mo_put_101 hl g _ _ _ _ _ ⟨fun _ => ⟨fun q => absurd c q, fun _ => ⟨_, Wg.r21, nI (pmA T A (nP A) 0 0), ?_, ?_⟩⟩, fun q => absurd (by decide) q⟩
    · have := Pg 0 0 (Nat.zero_le _) (Nat.zero_le _) (Nat.two_pow_pos _)
      exact aI_of (i := 0) Wg.s12 (by omega) (by decide) this
    · exact ⟨rfl, by rw [e0]; exact hs_eq, X.rd Wg (F0.tr Fg), mU_Z (F0.tr Fg)⟩
  · rw [if_neg c]
    rcases person_cases F.1 p with e | ⟨e, j, hj, rfl⟩
    · rw [if_pos e]
      refine ⟨X0.W.kd, 1, o_noPe hl X0.W F.1 e, fun q => absurd q (by decide), fun _ => ⟨X0.W.kd, _, o_thr1 hl hm X0.W 1, fun o h1 z => Or.inl ⟨1, z.1, fun q => absurd q (by decide), fun _ => ?_⟩⟩⟩
      rw [z.2]; exact MQt_no X0 (mU_Z F0) 1
    · have j7 := F.1.P7 hj
      rw [if_neg (by rw [e]; decide), nI_clamp (by omega)]
      refine ⟨X0.W.kd, 0, o_noPe hl X0.W F.1 e, fun _ => ⟨X0.W.kd, _, o_thr0 hl 1, fun o h1 z => Or.inl ⟨0, z.1, fun _ => ?_, fun q => absurd rfl q⟩⟩, fun q => absurd rfl q⟩
      rw [z.2]
      refine ⟨X0.W.kd, _, o_things hl X0.W, ?_⟩
      rw [all]
      refine o_put42 hl hm X0.W F X0.1.L _ (fun g Fg e0 Wg Sg Pg => ?_)
      refine e_Mo_put_101 hl g _ _ _ _ _ ⟨fun _ => ⟨fun _ => ?_, fun q => absurd q c⟩, fun q => absurd (by decide) q⟩
      refine for_up (Q := fun p => Ev G m_Mo_put 196 [.ref m, .int (nI j), un, .int (nI (lp (ptS T A) p (0, -1)).1), .int (lp (ptS T A) p (0, -1)).2, .int (nI p), un] [] g 0 0 (MQt G h m A T ln im pa r b n fl (0, putF T A j))) (n := j + 1) ?_ (fun p hp ih => ?_) 0 (Nat.zero_le _)
      · exact e_Mo_put_196 hl g _ _ _ _ _ _ ⟨fun _ => ⟨rfl, by rw [e0]; exact hs_eq, X.rd Wg (F0.tr Fg), mU_Z (F0.tr Fg)⟩, fun q => absurd (nI_lt (by omega) (by omega)) q⟩
      · have pn : p < nP A := by omega
        have kl := pt_lt (A := A) T p (by omega)
        have st : ∀ k' c, ptS T A p (lp (ptS T A) p (0, -1)) = (k', c) → Ev G m_Mo_put 196 [.ref m, .int (nI j), un, .int (nI k'), .int c, .int (nI p + 1), un] [] g 0 0 (MQt G h m A T ln im pa r b n fl (0, putF T A j)) := fun k' c e => by
          have := ih
          rw [show lp (ptS T A) (p + 1) (0, -1) = (k', c) from e] at this
          rw [nI_1]; exact this
        generalize lp (ptS T A) p (0, -1) = s at kl st ⊢
        obtain ⟨k, c0⟩ := s
        have P1 : PwC g m T A (p + 1) := fun q k h1 h2 h3 => Pg q k (Nat.zero_le _) h2 h3
        have m1 := pmA_b (T := T) F (nP A - (p + 1)) (p + 1) k
        have m2 := pmA_b (T := T) F (nP A - p) p k
        have kl' : k < 2 ^ nT A := kl
        have a4 : aI g 101 (m + 12) (nI (p * 1024 + k)) (nI (pmA T A (nP A - p) p k)) := aI_of Wg.s12 (by omega) (by decide) (Pg p k (Nat.zero_le _) (by omega) kl')
        refine e_Mo_put_196 hl g _ _ _ _ _ _ ⟨fun q => absurd q (nI_nlt (by omega) (by omega)), fun _ => ?_⟩
        refine e_Mo_put_205 hl g _ _ _ _ _ _ ⟨Wg.kd, _, o_putIf0 hl Wg F P1 rfl pn kl', _, Wg.r21, _, o_putAt hl (by omega), _, a4, fun q => ⟨fun z => absurd rfl z, fun _ => ?_⟩, fun q => ?_⟩
        · have q' := (nI_eq (a := pmA T A (nP A - (p + 1)) (p + 1) k) (b := pmA T A (nP A - p) p k) (by omega) (by omega)).mp q
          rw [Int32.or_zero]
          exact st k (-1) (by unfold ptS chF; rw [if_pos q', if_pos rfl])
        · rcases ch_sp (T := T) (k := k) pn with ⟨-, q'⟩ | ⟨t0, t1, e1, -, -, e3⟩
          · exact absurd (by rw [q']) q
          · rw [show (-1 : Int32) + 1 = nI 0 from rfl]
            suffices hh : ∀ d t, t + d = nT A → ckG T A p k d t = nI t0 → Ev G m_Mo_put 205 [.ref m, .int (nI j), un, .int (nI k), .int (nI t), .int (nI p), un] [] g 0 0 (MQt G h m A T ln im pa r b n fl (0, putF T A j)) from hh (nT A) 0 (by omega) e3
            intro d
            induction d with
            | zero => intro t ht z; exact absurd z.symm (m1_ne (by omega))
            | succ d ihd =>
              intro t ht z
              have tn : t < nT A := by omega
              have aw := wN_nI F tn
              have m3 := pmA_b (T := T) F (nP A - (p + 1)) (p + 1) (k ||| 2 ^ t)
              unfold ckG at z
              refine e_Mo_put_205 hl g _ _ _ _ _ _ ⟨Wg.kd, _, o_putIf1 hl Wg F P1 Sg rfl pn kl' tn, _, Wg.r21, _, o_putAt hl (by omega), _, a4, fun q => ⟨fun _ => ?_, fun y => absurd y (m1_ne (by omega))⟩, fun q => ?_⟩
              · by_cases cc : k.testBit t = false ∧ lvB A p = true ∧ zN A t ≤ gN T A p
                · rw [if_pos cc] at q
                  have q' := (nI_eq (by omega) (by omega)).mp q
                  rw [if_pos ⟨cc, q'⟩] at z
                  rw [show nI k ||| (1 : Int32) <<< (nI t &&& 31) = nI (k ||| 2 ^ t) from or_sh (by omega)]
                  exact st _ _ (by unfold ptS; rw [e1, if_neg (m1_ne (by omega)), ← z, nI_clamp (by omega)])
                · rw [if_neg cc] at q; exact absurd q.symm (m1_ne (by omega))
              · rw [if_neg (fun y => q (by rw [if_pos y.1, y.2]))] at z
                rw [nI_1]; exact ihd (t + 1) (by omega) z
end PUT3
