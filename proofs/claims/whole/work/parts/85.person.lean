/-! ===== bargains of the reference, the end; somebody: both sides ===== -/
section PERS
variable {G : Gx} {h h' h1 : Hp} {x la m v : Nat} {A A' : Vs} {T : Tt} {ln : Int32} {im im' : Option Sv} {pa pa' : Nat → Vs} {r r' : Nat} {b : Nat → Nat} {n : Nat} {fl : Int32}
def mK (m : Nat) : Nat → Nat → Prop := fun a j => mW m a j ∨ (m + 9 ≤ a ∧ a ≤ m + 11)
theorem mK_U {a j : Nat} (z : mK m a j) : mU m a j := by
  unfold mK at z; unfold mU
  rcases z with z | z
  · exact Or.inr (Or.inl z)
  · exact Or.inr (Or.inr (by omega))
theorem o_core (hl : G.1.stackTraces = false) (hm : G.n0 ≤ m) (W : WldAt h m A) (F : Wf A) (L : MLawOk G h m T) {j : Nat} (hj : j < nP A) : EvM G m_Mo_coreOf [.ref m, .int (nI j)] h (fun o h' => o = .inl (some (.int (cF A j))) ∧ WldAt h' m A ∧ Fs (mK m) h h') := by
  have b7 := F.1.2.1
  have bes : ∀ {g : Hp} {a i : Nat} {y : Value}, WldAt g m A → (m + 9 ≤ a ∧ a ≤ m + 11) → WldAt (hset g a i y) m A := fun Wg q => Wg.beside (Or.inr (Or.inr (Or.inr q)))
  refine en_Mo_coreOf h _ _ _ (e_Mo_coreOf_0 hl h _ _ _ ?_)
  refine for_up (Q := fun p => ∀ g : Hp, WldAt g m A → Fs (mK m) h g → AtC g m A p → (∀ q, q < p → g.2.1 (m + 10) q = .int (-1)) → Ev G m_Mo_coreOf 4 [.ref m, .int (nI j), .int (lp (hoS A) p 0), .int (nI p), un] [] g 0 0 (fun o h' => o = .inl (some (.int (cF A j))) ∧ WldAt h' m A ∧ Fs (mK m) h h')) (n := nP A) ?_ (fun p hp ih => ?_) 0 (Nat.zero_le _) h W Fs.rf (fun q hq => by omega) (fun q hq => by omega)
  · intro g Wg Fg H E
    obtain ⟨s, S, es, siff⟩ := ho_sub F.1
    refine e_Mo_coreOf_4 hl g _ _ _ _ _ ⟨Wg.kd, _, o_people hl Wg, fun _ => ?_, fun c => absurd F.1.end_P c⟩
    rw [es]
    suffices hh : ∀ d s (g : Hp), cntN s (nP A) 0 ≤ d → WldAt g m A → Fs (mK m) h g → AtC g m A (nP A) → Sub A s → (∀ p, p < nP A → g.2.1 (m + 10) p = .int (if s.testBit p = true then -1 else cF A p)) → Ev G m_Mo_coreOf 68 [.ref m, .int (nI j), .int (nI s), un, un] [] g 0 0 (fun o h' => o = .inl (some (.int (cF A j))) ∧ WldAt h' m A ∧ Fs (mK m) h h') from hh (nP A) s g (cnt_le _ _) Wg Fg H S (fun p hp => by
      rw [E p hp]
      by_cases z : cF A p = -1
      · rw [z, ite_self]
      · rw [if_pos ((siff p hp).mpr z)])
    intro d
    induction d with
    | zero =>
      intro s g hc Wg Fg H S E
      have s0 : s = 0 := by
        by_cases z : s = 0
        · exact z
        · obtain ⟨p, pn, pb, -⟩ := low_ex z S.1
          have := cnt_0 pb pn; omega
      refine e_Mo_coreOf_68 hl g _ _ _ _ ⟨fun _ => ⟨_, Wg.r19, _, aI_of Wg.s10 (by omega) (by decide) (E j hj), ?_, Wg, Fg⟩, fun c => absurd (by rw [s0]; rfl) c⟩
      rw [s0, Nat.zero_testBit, if_neg (by decide)]
    | succ d ihd =>
      intro s g hc Wg Fg H S E
      have t7 := two_nP F.1
      refine e_Mo_coreOf_68 hl g _ _ _ _ ⟨fun c => ⟨_, Wg.r19, _, aI_of Wg.s10 (by omega) (by decide) (E j hj), ?_, Wg, Fg⟩, fun c => ⟨Wg.kd, _, o_comeRound hl hm Wg F (L.keepU (Fg.mono (fun _ _ => mK_U))) H S, fun o1 h1 z => Or.inl ?_⟩⟩
      · have s0 : s = 0 := (nI_eq (by have := S.1; omega) (by decide)).mp (show nI s = nI 0 from c)
        rw [s0, Nat.zero_testBit, if_neg (by decide)]
      · have s0 : s ≠ 0 := fun z => c (by rw [z]; rfl)
        obtain ⟨pt, P, z1, W1, F1, cont⟩ := z
        have F1' : Fs (mK m) h h1 := Fg.tr (F1.mono (fun a i q => by
          rcases q with q | q
          · exact Or.inl q
          · exact Or.inr (by omega)))
        have H1 : AtC h1 m A (nP A) := H.keep (fun i => F1.2.2 _ _ (by unfold mB mW; omega))
        have E1 : ∀ p, p < nP A → h1.2.1 (m + 10) p = .int (if s.testBit p = true then -1 else cF A p) := fun p hp => by rw [F1.2.2 _ _ (by unfold mB mW; omega)]; exact E p hp
        obtain ⟨s', S', es', iff⟩ := rest_ex F.1 (pt := pt) S
        have cl := cnt_less F S P s0 iff
        refine ⟨_, z1, ?_⟩
        refine for_up (Q := fun p => ∀ g : Hp, WldAt g m A → Fs (mK m) h g → AtC g m A (nP A) → (∀ q, s.testBit q = true → g.2.1 (m + 11) q = .int (nI (pt q))) → (∀ q, q < nP A → g.2.1 (m + 10) q = .int (if (if q < p then s'.testBit q else s.testBit q) = true then -1 else cF A q)) → Ev G m_Mo_coreOf 81 [.ref m, .int (nI j), .int (nI s), .int (rgF s pt (nP A)), .int (nI p)] [] g 0 0 (fun o h' => o = .inl (some (.int (cF A j))) ∧ WldAt h' m A ∧ Fs (mK m) h h')) (n := nP A) ?_ (fun p hp ih => ?_) 0 (Nat.zero_le _) h1 W1 F1' H1 cont (fun q hq => by rw [if_neg (by omega : ¬ q < 0)]; exact E1 q hq)
        · intro g Wg Fg H _ E
          refine e_Mo_coreOf_81 hl g _ _ _ _ _ _ ⟨Wg.kd, _, o_people hl Wg, fun _ => ?_, fun c => absurd F.1.end_P c⟩
          rw [es']
          exact ihd s' g (by omega) Wg Fg H S' (fun p hp => by have := E p hp; rw [if_pos hp] at this; exact this)
        · intro g Wg Fg H cont E
          have p7 : p < 7 := by omega
          have next : ∀ g' : Hp, WldAt g' m A → Fs (mK m) h g' → AtC g' m A (nP A) → (∀ q, s.testBit q = true → g'.2.1 (m + 11) q = .int (nI (pt q))) → (∀ q, q < nP A → g'.2.1 (m + 10) q = .int (if (if q < p + 1 then s'.testBit q else s.testBit q) = true then -1 else cF A q)) → Ev G m_Mo_coreOf 118 [.ref m, .int (nI j), .int (nI s), .int (rgF s pt (nP A)), .int (nI p)] [] g' 0 0 (fun o h' => o = .inl (some (.int (cF A j))) ∧ WldAt h' m A ∧ Fs (mK m) h h') := fun g' a1 a2 a3 a4 a5 => by
            refine e_Mo_coreOf_118 hl _ _ _ _ _ _ _ ?_
            rw [nI_1]; exact ih g' a1 a2 a3 a4 a5
          have same : ∀ q, q ≠ p → (if q < p + 1 then s'.testBit q else s.testBit q) = (if q < p then s'.testBit q else s.testBit q) := fun q hq => by
            by_cases z : q < p
            · rw [if_pos z, if_pos (by omega)]
            · rw [if_neg z, if_neg (by omega)]
          have rb : ∀ (q : s.testBit p = true ∧ pt p = p), ¬ (if (rgF s pt (nP A) >>> (nI p &&& 31)) &&& 1 = 1 then (1 : Int32) else 0) = 0 := fun q z => ite0 z ((bit1_t (by omega)).mpr (by rw [rgF_bt (by omega) (by omega)]; exact decide_eq_true ⟨hp, q⟩))
          refine e_Mo_coreOf_81 hl g _ _ _ _ _ _ ⟨Wg.kd, _, o_people hl Wg, fun c => absurd c (F.1.in_P hp), fun _ => ⟨_, o_has hl _ _, fun c1 => ?_, fun c1 => ?_⟩⟩
          · refine next g Wg Fg H cont (fun q hq => ?_)
            rw [E q hq]
            by_cases z : q = p
            · subst z
              rw [if_neg (by omega : ¬ q < q), if_pos (by omega : q < q + 1)]
              have : (s'.testBit q = true) = (s.testBit q = true) := propext ⟨fun y => ((iff q).mp y).1, fun y => (iff q).mpr ⟨y, fun w => rb ⟨y, w⟩ c1⟩⟩
              simp only [this]
            · rw [same q z]
          · have d2 := (bit1_t (x := rgF s pt (nP A)) (by omega : p < 32)).mp (ite1 c1)
            rw [rgF_bt (by omega) (by omega)] at d2
            obtain ⟨-, pb, pj⟩ := of_decide_eq_true d2
            have cj := cont p pb
            rw [pj] at cj
            refine ⟨_, Wg.r19, _, Wg.r18, _, Wg.r20, _, aI_of Wg.s11 p7 (by decide) cj, _, aI_of Wg.s9 p7 (by decide) (H p hp), aW_of (by omega) Wg.s10 p7 (by decide), ?_⟩
            rw [nI_clamp (by omega)]
            refine next _ (bes Wg (by omega)) (Fg.set (Or.inr (by omega))) (fun q hq => by rw [hs_ne (by omega)]; exact H q hq) (fun q hq => by rw [hs_ne (by omega)]; exact cont q hq) (fun q hq => ?_)
            by_cases z : q = p
            · subst z
              rw [hs_eq, if_pos (by omega : q < q + 1), if_neg (fun y => ((iff q).mp y).2 pj)]
            · rw [hs_ne (by omega), E q hq, same q z]
  · intro g Wg Fg H E
    have p7 := F.1.P7 hp
    have go : ∀ y, y = cF A p → aW G g 101 (m + 9) (nI p) ∧ Ev G m_Mo_coreOf 35 [.ref m, .int (nI j), .int (lp (hoS A) p 0), .int (nI p), un] [] (hset g (m + 9) (nI p).toNatClampNeg (.int y)) 0 0 (fun o h' => o = .inl (some (.int (cF A j))) ∧ WldAt h' m A ∧ Fs (mK m) h h') := fun y ey => by
      refine ⟨aW_of (by omega) Wg.s9 p7 (by decide), ?_⟩
      rw [nI_clamp (by omega)]
      have W1 : WldAt (hset g (m + 9) p (.int y)) m A := bes Wg (by omega)
      refine e_Mo_coreOf_35 hl _ _ _ _ _ _ ⟨_, W1.r19, aW_of (by omega) W1.s10 p7 (by decide), ?_⟩
      rw [nI_clamp (by omega)]
      have W2 : WldAt (hset (hset g (m + 9) p (.int y)) (m + 10) p (.int (-1))) m A := bes W1 (by omega)
      have H2 : AtC (hset (hset g (m + 9) p (.int y)) (m + 10) p (.int (-1))) m A (p + 1) := fun q hq => by
        by_cases z : q = p
        · subst z; rw [hs_ne (by omega), hs_eq, ey]
        · rw [hs_ne (by omega), hs_ne (by omega)]; exact H q (by omega)
      have ih2 := ih _ W2 ((Fg.set (Or.inr (by omega))).set (Or.inr (by omega))) H2 (fun q hq => by
        by_cases z : q = p
        · subst z; exact hs_eq
        · rw [hs_ne (by omega), hs_ne (by omega)]; exact E q (by omega))
      have st : lp (hoS A) (p + 1) 0 = hoS A p (lp (hoS A) p 0) := rfl
      rw [st] at ih2
      refine e_Mo_coreOf_42 hl _ _ _ _ _ _ ⟨_, W2.r18, _, aI_of W2.s9 p7 (by decide) (H2 p (by omega)), fun c => ?_, fun c => ?_⟩
      · rw [nI_1]; unfold hoS at ih2; rw [if_pos c] at ih2; exact ih2
      · rw [nI_1, Int32.or_zero]; unfold hoS at ih2; rw [if_neg (fun z => z c)] at ih2; exact ih2
    refine e_Mo_coreOf_4 hl g _ _ _ _ _ ⟨Wg.kd, _, o_people hl Wg, fun c => absurd c (F.1.in_P hp), fun _ => ⟨_, Wg.r18, Wg.kd, _, o_lives hl Wg p7, fun c => go _ (by unfold cF; rw [if_neg (ite0 c)]), fun c => ⟨Wg.kd, _, o_heldBy hl Wg F _, go _ (by unfold cF; rw [if_pos (ite1 c)])⟩⟩⟩
def perF (T : Tt) (A : Vs) (p w : Nat) : Int32 := match w with
  | 0 => A 1 p
  | 1 => A 2 p
  | 2 => A 3 p
  | 3 => A 4 p
  | 4 => A 5 p
  | 5 => holdF A (nI p)
  | 6 => gripF T A p
  | 7 => failF T A p
  | 8 => ownF A (nI p)
  | 9 => clothF A (nI p)
  | 10 => succF A p
  | 11 => estF A p
  | 12 => lostF A p
  | 13 => lineF A p
  | 14 => hangF A (nI p)
  | 15 => hopeF T A p
  | 16 => cF A p
  | _ => shareF A p
def perQ (T : Tt) (A : Vs) (p w : Int32) : Int32 × Int32 := anP A p (anN (nI 18) w 2 (0, perF T A p.toNatClampNeg w.toNatClampNeg))
theorem flag01 {A : Vs} (W : Wf A) {k p : Nat} (hk : k = 4 ∨ k = 5) (hp : p < nP A) : (flagF A k >>> (nI p &&& 31)) &&& 1 = A k p := by
  have p7 := W.1.P7 hp
  have := flag_bit (A := A) (f := k) W.1 (by omega : p < 32)
  rw [if_pos hp] at this
  have e : (flagF A k >>> (nI p &&& 31)) &&& 1 = bit1 (flagF A k) p := rfl
  rw [e, this]
  have wp := W.2.2.1 p hp
  rcases hk with rfl | rfl
  · rcases wp.1 with q | q <;> rw [q] <;> rfl
  · rcases wp.2.1 with q | q <;> rw [q] <;> rfl
theorem c_person (hl : G.1.stackTraces = false) (hx : G.n0 ≤ x) (C : CT G h x la A T ln im pa r b n fl) (W : Wf A) (p w : Int32) : EvM G m_Gr_person [.ref x, .int p, .int w] h (CQ G h x la A T ln im pa r b n fl (es3 2 4 4) (perQ T A p w)) := by
  unfold perQ
  rcases person_cases W.1 p with e | ⟨e, k, hk, rfl⟩
  · rw [anP1 e]
    exact en_Gr_person h _ x _ _ (e_Gr_person_0 hl h _ x _ _ ⟨C.S.kd, _, c_needPerson0 hl C.S.r5 C.V e, by decide, fun o h1 z => Or.inr (CQ_th C Fs.rf z (by decide) rfl)⟩)
  · have k7 := W.1.P7 hk
    rw [anP0 e, nI_clamp (by omega)]
    refine en_Gr_person h _ x _ _ (e_Gr_person_0 hl h _ x _ _ ⟨C.S.kd, _, c_needPerson1 hl C.S.r5 C.V e, by decide, fun o h1 z => Or.inl ⟨z.1, ?_⟩⟩)
    rw [z.2]
    have V := C.V
    have X := C.S.r5
    have L := C.C.L.1
    rcases num_cases 18 (by decide) w with ⟨e2, c⟩ | ⟨e2, c1, c2, j, hj, rfl⟩
    · rw [anN1 e2]
      have no : ∀ {i : Nat} {P : Prop}, i < 18 → w = nI i → P := fun hi z => by
        rcases c with c | c
        · rw [z] at c; exact absurd c (nI_pos (by omega))
        · rw [z] at c; exact absurd c (nI_ge hi (by decide))
      exact ⟨⟨fun q => no (i := 0) (by decide) q, fun q => no (i := 1) (by decide) q, fun q => no (i := 2) (by decide) q, fun q => no (i := 3) (by decide) q, fun q => no (i := 4) (by decide) q, fun q => no (i := 5) (by decide) q, fun q => no (i := 6) (by decide) q, fun q => no (i := 7) (by decide) q, fun q => no (i := 8) (by decide) q, fun q => no (i := 9) (by decide) q, fun q => no (i := 10) (by decide) q, fun q => no (i := 11) (by decide) q, fun q => no (i := 12) (by decide) q, fun q => no (i := 13) (by decide) q, fun q => no (i := 14) (by decide) q, fun q => no (i := 15) (by decide) q, fun q => no (i := 16) (by decide) q, fun q => no (i := 17) (by decide) q, trivial⟩, fun _ n hn => ⟨cans_th (by decide) rfl Fs.rf hn, C.nx ⟨rfl, hn, fun _ _ _ => rfl⟩⟩⟩
    · rw [anN0 e2, nI_clamp (by omega)]
      have is : ∀ i, i < 18 → nI j = nI i → j = i := fun i hi q => (nI_eq (by omega) (by omega)).mp q
      have ok : ∀ y, y = perF T A k j → CQ G h x la A T ln im pa r b n fl (es3 2 4 4) (0, perF T A k j) (.inl (some (.int y))) h := fun y e => by rw [e]; exact ⟨cans_ok Fs.rf, C⟩
      refine ⟨⟨fun q => ?_, fun q => ?_, fun q => ?_, fun q => ?_, fun q => ?_, fun q => ?_, fun q => ?_, fun q => ?_, fun q => ?_, fun q => ?_, fun q => ?_, fun q => ?_, fun q => ?_, fun q => ?_, fun q => ?_, fun q => ?_, fun q => ?_, fun q => ?_, trivial⟩, fun q => absurd q (by rintro (y | y); exact c1 y; exact c2 y)⟩
      · have := is 0 (by decide) q; subst this; exact ⟨_, X, _, V.r1, _, V.a1 k7, ok _ rfl⟩
      · have := is 1 (by decide) q; subst this; exact ⟨_, X, _, V.r2, _, V.a2 k7, ok _ rfl⟩
      · have := is 2 (by decide) q; subst this; exact ⟨_, X, _, V.r3, _, V.a3 k7, ok _ rfl⟩
      · have := is 3 (by decide) q; subst this; exact ⟨_, X, _, V.f4, ok _ (flag01 W (Or.inl rfl) hk)⟩
      · have := is 4 (by decide) q; subst this; exact ⟨_, X, _, V.f5, ok _ (flag01 W (Or.inr rfl) hk)⟩
      · have := is 5 (by decide) q; subst this; exact ⟨_, X, V.kd, _, v_holding hl V W.1 _, ok _ rfl⟩
      · have := is 6 (by decide) q; subst this; exact ⟨_, X, V.kd, _, v_grips hl V W L hk, ok _ rfl⟩
      · have := is 7 (by decide) q; subst this; exact ⟨_, X, V.kd, _, v_fails hl V W L hk, ok _ rfl⟩
      · have := is 8 (by decide) q; subst this; exact ⟨_, X, V.kd, _, v_ownedBy hl V W.1 _, ok _ rfl⟩
      · have := is 9 (by decide) q; subst this; exact ⟨_, X, V.kd, _, v_clothOf hl V W.1 _, ok _ rfl⟩
      · have := is 10 (by decide) q; subst this; exact ⟨_, X, V.kd, _, v_successor hl V W.1 W.2.1 hk, ok _ rfl⟩
      · have := is 11 (by decide) q; subst this; exact ⟨_, X, _, e_estate hl V W hk, ok _ rfl⟩
      · have := is 12 (by decide) q; subst this; exact ⟨_, X, _, e_lost hl V W hk, ok _ rfl⟩
      · have := is 13 (by decide) q; subst this; exact ⟨_, X, _, e_line hl V W hk, ok _ rfl⟩
      · have := is 14 (by decide) q; subst this; exact ⟨_, X, _, e_hangers hl V W _, ok _ rfl⟩
      · have := is 15 (by decide) q; subst this; exact ⟨_, X, _, e_hoped hl V W L hk, ok _ rfl⟩
      · have := is 16 (by decide) q; subst this
        exact ⟨_, C.S.r4, _, X, C.mt.kd, _, t_core hl hx C W hk, fun o2 h2 y => Or.inl ⟨_, y.1, cans_ok (mC_Z y.2), C.co y.2⟩⟩
      · have := is 17 (by decide) q; subst this; exact ⟨_, X, _, e_share hl V W _, ok _ rfl⟩
theorem p_person (hl : G.1.stackTraces = false) (hm : G.n0 ≤ m) (X : MT G h m A T ln im pa r b n fl) (F : Wf A) (p w : Int32) : EvM G m_Mo_person [.ref m, .int p, .int w] h (MQt G h m A T ln im pa r b n fl (perQ T A p w)) := by
  have X0 := X.thr 0
  have W0 := X0.W
  have F0 : Fs (mU m) h (hset h m 0 (.int 0)) := fU0
  have L0 := X0.1.L
  unfold perQ
  refine en_Mo_person h _ m _ _ (e_Mo_person_0 hl h _ m _ _ ⟨⟨hm, X.W.kd⟩, e_Mo_person_5 hl _ _ m _ _ ?_⟩)
  rcases person_cases F.1 p with e | ⟨e, k, hk, rfl⟩
  · rw [anP1 e]
    refine ⟨W0.kd, 1, o_noPe hl W0 F.1 e, W0.kd, _, o_thr1 hl hm W0 1, fun o h1 z => Or.inl ⟨1, z.1, fun _ => ?_, fun q => absurd q (by decide)⟩⟩
    rw [z.2]; exact MQt_no X0 (mU_Z F0) 1
  · have k7 := F.1.P7 hk
    rw [anP0 e, nI_clamp (by omega)]
    refine ⟨W0.kd, 0, o_noPe hl W0 F.1 e, W0.kd, _, o_thr0 hl 1, fun o h1 z => Or.inl ⟨0, z.1, fun q => absurd rfl q, fun _ => ?_⟩⟩
    rw [z.2]
    have k4 := in_no4 (w := w) 17 (by decide)
    rcases num_cases 18 (by decide) w with ⟨e2, c⟩ | ⟨e2, c1, c2, j, hj, rfl⟩
    · rw [anN1 e2]
      refine ⟨0, o_ine hl (k4.1 e2), fun q => absurd rfl q, fun _ => ⟨W0.kd, _, o_thr1 hl hm W0 2, fun o h1 z => Or.inl ⟨1, z.1, fun q => absurd q (by decide), fun _ => ?_⟩⟩⟩
      rw [z.2]; exact MQt_no X0 (mU_Z F0) 2
    · rw [anN0 e2, nI_clamp (by omega)]
      refine ⟨1, o_ine hl (k4.2 e2), fun _ => ⟨W0.kd, _, o_thr0 hl 2, fun o h1 z => Or.inl ⟨0, z.1, fun _ => ?_, fun q => absurd rfl q⟩⟩, fun q => absurd q (by decide)⟩
      rw [z.2]
      have is : ∀ i, i < 18 → nI j = nI i → j = i := fun i hi q => (nI_eq (by omega) (by omega)).mp q
      have ok : ∀ y, y = perF T A k j → MQt G h m A T ln im pa r b n fl (0, perF T A k j) (.inl (some (.int y))) (hset h m 0 (.int 0)) := fun y e => by rw [e]; exact ⟨rfl, hs_eq, X0, mU_Z F0⟩
      have okW : ∀ y (o1 : Res) (h1 : Hp), y = perF T A k j → mpostI m (hset h m 0 (.int 0)) A y o1 h1 → MQt G h m A T ln im pa r b n fl (0, perF T A k j) (.inl (some (.int y))) h1 := fun y o1 h1 e z => by
        obtain ⟨-, W1, F1⟩ := z
        rw [e]
        exact ⟨rfl, by rw [F1.2.2 m 0 (by unfold mW; omega)]; exact hs_eq, X0.rd W1 (F1.mono (fun _ _ => mW_U)), mU_Z (F0.tr (F1.mono (fun _ _ => mW_U)))⟩
      refine ⟨⟨fun q => ?_, fun q => ?_, fun q => ?_, fun q => ?_, fun q => ?_, fun q => ?_, fun q => ?_, fun q => ?_, fun q => ?_, fun q => ?_, fun q => ?_, fun q => ?_, fun q => ?_, trivial⟩, fun q => ?_⟩
      · have := is 5 (by decide) q; subst this; exact ⟨W0.kd, _, o_heldBy hl W0 F _, ok _ rfl⟩
      · have := is 6 (by decide) q; subst this; exact ⟨W0.kd, _, o_gripsOf hl W0 F L0 hk, fun o1 h1 y => Or.inl ⟨_, y.1, okW _ o1 h1 rfl y⟩⟩
      · have := is 7 (by decide) q; subst this; exact ⟨W0.kd, _, o_failsOf hl W0 F L0 hk, fun o1 h1 y => Or.inl ⟨_, y.1, okW _ o1 h1 rfl y⟩⟩
      · have := is 8 (by decide) q; subst this; exact ⟨W0.kd, _, o_ownedBy hl W0 F.1 _, ok _ rfl⟩
      · have := is 9 (by decide) q; subst this; exact ⟨W0.kd, _, o_onClothOf hl W0 F.1 _, ok _ rfl⟩
      · have := is 10 (by decide) q; subst this; exact ⟨W0.kd, _, o_succ hl W0 F hk, ok _ rfl⟩
      · have := is 11 (by decide) q; subst this; exact ⟨W0.kd, _, o_estate hl W0 F hk, ok _ rfl⟩
      · have := is 12 (by decide) q; subst this; exact ⟨W0.kd, _, o_lost hl W0 F hk, ok _ rfl⟩
      · have := is 13 (by decide) q; subst this; exact ⟨W0.kd, _, o_line hl W0 F hk, ok _ rfl⟩
      · have := is 14 (by decide) q; subst this; exact ⟨W0.kd, _, o_hangs hl W0 F _, ok _ rfl⟩
      · have := is 15 (by decide) q; subst this; exact ⟨W0.kd, _, o_hoped hl W0 F L0 hk, fun o1 h1 y => Or.inl ⟨_, y.1, okW _ o1 h1 rfl y⟩⟩
      · have := is 16 (by decide) q; subst this
        refine ⟨W0.kd, _, o_core hl hm W0 F L0 hk, fun o1 h1 y => Or.inl ⟨_, y.1, rfl, ?_, ?_, ?_⟩⟩
        · rw [y.2.2.2.2 m 0 (by unfold mK mW; omega)]; exact hs_eq
        · exact X0.rd y.2.1 (y.2.2.mono (fun _ _ => mK_U))
        · exact mU_Z (F0.tr (y.2.2.mono (fun _ _ => mK_U)))
      · have := is 17 (by decide) q; subst this
        have nz : ∀ {c : Prop}, c → c := fun z => z
        refine ⟨W0.kd, _, o_worthAll hl W0 F.1, fun c => ⟨W0.kd, _, o_ownedBy hl W0 F.1 _, W0.kd, _, o_worthOf hl W0 F.1 _, W0.kd, _, o_worthAll hl W0 F.1, c, ok _ ?_⟩, fun c => ok _ ?_⟩
        · show _ = shareF A k; unfold shareF; rw [if_neg c]
        · show _ = shareF A k; unfold shareF; rw [if_pos c]
      · have j5 : j < 5 := by
          rcases q with q | q
          · exact (nI_ltI (b := 5) (by omega) (by decide)).mp q
          · exact absurd q c2
        refine ⟨W0.kd, _, o_of hl W0 k7 j5, ok _ ?_⟩
        have : j = 0 ∨ j = 1 ∨ j = 2 ∨ j = 3 ∨ j = 4 := by omega
        rcases this with rfl | rfl | rfl | rfl | rfl <;> rfl
end PERS
