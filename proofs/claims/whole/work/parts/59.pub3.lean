/-! ===== answers: the reference, the second half ===== -/
section PUB3
variable {G : Gx} {h : Hp} {m : Nat} {A : Vs} {T : Tt}
theorem p_hoard (hl : G.1.stackTraces = false) (hm : G.n0 ≤ m) (W : WldAt h m A) (F : Wf A) (p w b : Int32) : EvM G m_Mo_hoard [.ref m, .int p, .int w, .int b] h (mans m h A (anP A p (anN (nI 121) w 2 (0, if b = 0 then worthF A (baskF A (ownF A p) w) else baskF A (ownF A p) w)))) := by
  have W0 := W.thr 0
  have B := F.1
  refine en_Mo_hoard h _ m _ _ _ (e_Mo_hoard_0 hl h _ m _ _ _ ⟨⟨hm, W.kd⟩, e_Mo_hoard_5 hl _ _ m _ _ _ ?_⟩)
  rcases person_cases F.1 p with e | ⟨e, k, hk, rfl⟩
  · rw [anP1 e]
    refine ⟨W0.kd, 1, o_noPe hl W0 F.1 e, W0.kd, _, o_thr1 hl hm W0 1, fun o h1 z => Or.inl ⟨1, z.1, fun _ => ?_, fun q => absurd q (by decide)⟩⟩
    rw [z.2]; exact mans1 fU0 W0 rfl
  · rw [anP0 e]
    refine ⟨W0.kd, 0, o_noPe hl W0 F.1 e, W0.kd, _, o_thr0 hl 1, fun o h1 z => Or.inl ⟨0, z.1, fun q => absurd rfl q, fun _ => ?_⟩⟩
    rw [z.2]
    rcases num_cases 121 (by decide) w with ⟨e2, c⟩ | ⟨e2, c1, c2, j, hj, rfl⟩
    · rw [anN1 e2]
      have e0 := (in_no4 (w := w) 120 (by decide)).1 e2
      refine ⟨0, o_ine hl e0, fun q => absurd rfl q, fun _ => ⟨W0.kd, _, o_thr1 hl hm W0 2, fun o h1 z => Or.inl ⟨1, z.1, fun q => absurd q (by decide), fun _ => ?_⟩⟩⟩
      rw [z.2]; exact mans1 fU0 W0 rfl
    · rw [anN0 e2]
      have e0 := (in_no4 (w := nI j) 120 (by decide)).2 e2
      obtain ⟨s, hs, es⟩ := ownF_small B (nI k)
      have hcl : (ownF A (nI k)).toNatClampNeg = s := by rw [es]; exact nI_clamp (by omega)
      refine ⟨1, o_ine hl e0, fun _ => ⟨W0.kd, _, o_thr0 hl 2, fun o h1 z => Or.inl ⟨0, z.1, fun _ => ?_, fun q => absurd rfl q⟩⟩, fun q => absurd q (by decide)⟩
      rw [z.2]
      refine ⟨W0.kd, _, o_ownedBy hl W0 B _, ?_⟩
      refine for_up (Q := fun t => Ev G m_Mo_hoard 56 [.ref m, un, .int (nI j), .int b, .int (ownF A (nI k)), .int (lp (baskS A (ownF A (nI k)) (nI j)) t 0), .int (nI (t + 1))] [] (hset h m 0 (.int 0)) 0 0 _) (n := s) ?_ (fun t ht ih => ?_) 0 (Nat.zero_le _)
      · have eb : lp (baskS A (ownF A (nI k)) (nI j)) s 0 = baskF A (ownF A (nI k)) (nI j) := by unfold baskF; rw [hcl]
        rw [eb]
        refine e_Mo_hoard_56 hl _ _ m _ _ _ _ _ ⟨fun _ => ⟨fun d => ⟨W0.kd, _, o_worthOf hl W0 B _, ?_⟩, fun d => ?_⟩, fun c => absurd (by rw [es]; exact nI_lt (by omega) (by omega)) c⟩
        · rw [if_pos d]; exact mans0 Fs.rf W0 rfl
        · rw [if_neg d]; exact mans0 Fs.rf W0 rfl
      · simp only [lp] at ih
        generalize lp (baskS A (ownF A (nI k)) (nI j)) t 0 = bb at *
        have stay : baskS A (ownF A (nI k)) (nI j) t bb = bb → Ev G m_Mo_hoard 56 [.ref m, un, .int (nI j), .int b, .int (ownF A (nI k)), .int bb, .int (nI (t + 1) + 1)] [] (hset h m 0 (.int 0)) 0 0 (mans m h A (0, if b = 0 then worthF A (baskF A (ownF A (nI k)) (nI j)) else baskF A (ownF A (nI k)) (nI j))) := fun e => by rw [e] at ih; rw [nI_1]; exact ih
        refine e_Mo_hoard_56 hl _ _ m _ _ _ _ _ ⟨fun c => absurd c (by rw [es]; exact nI_nlt (by omega) (by omega)), fun _ => ⟨fun c => stay ?_, fun c => ⟨W0.kd, _, o_sizeOf hl W0 B _, fun d => stay ?_, fun d => ⟨W0.kd, _, o_isBetter hl W0 F _ _, fun f => stay ?_, fun f => ?_⟩⟩⟩⟩
        · unfold baskS; rw [if_neg (fun z => c z.1)]
        · unfold baskS; rw [if_neg (fun z => Int32.not_lt.mpr z.2.1 d)]
        · unfold baskS; rw [if_neg (fun z => ite0 f z.2.2)]
        · have : baskS A (ownF A (nI k)) (nI j) t bb = nI (t + 1) := by unfold baskS; rw [if_pos ⟨c, Int32.not_lt.mp d, ite1 f⟩]
          rw [this] at ih; rw [nI_1]; exact ih
theorem p_noBoth0 (hl : G.1.stackTraces = false) (hm : G.n0 ≤ m) (W : WldAt h m A) (F : Wf A) {p t : Int32} (e1 : noF (A 0 0) p = 0) (e2 : noF (A 0 1) t = 0) : EvM G m_Mo_noBoth [.ref m, .int p, .int t] h (fun o h' => o = .inl (some (.int 0)) ∧ h' = hset h m 0 (.int 0)) := by
  have W0 := W.thr 0
  refine en_Mo_noBoth h _ m _ _ (e_Mo_noBoth_0 hl h _ m _ _ ⟨⟨hm, W.kd⟩, e_Mo_noBoth_5 hl _ _ m _ _ ⟨W0.kd, 0, o_noPe hl W0 F.1 e1, fun q => absurd rfl q, fun _ => ⟨W0.kd, 0, o_noTe hl W0 F.1 e2, fun _ => ⟨W0.kd, _, o_thr0 hl 1, fun o h1 z => Or.inl ⟨0, z.1, bret_of (Or.inl rfl) ⟨rfl, z.2⟩⟩⟩, fun q => absurd rfl q⟩⟩⟩)
theorem p_noBoth1 (hl : G.1.stackTraces = false) (hm : G.n0 ≤ m) (W : WldAt h m A) (F : Wf A) {p t : Int32} (e : noF (A 0 0) p = 1 ∨ noF (A 0 1) t = 1) : EvM G m_Mo_noBoth [.ref m, .int p, .int t] h (fun o h' => o = .inl (some (.int 1)) ∧ h' = hset (hset h m 0 (.int 0)) m 0 (.int 1)) := by
  have W0 := W.thr 0
  refine en_Mo_noBoth h _ m _ _ (e_Mo_noBoth_0 hl h _ m _ _ ⟨⟨hm, W.kd⟩, e_Mo_noBoth_5 hl _ _ m _ _ ⟨W0.kd, _, o_noPerson hl W0 F.1 p, fun _ => ⟨W0.kd, _, o_thr1 hl hm W0 1, fun o h1 z => Or.inl ⟨1, z.1, bret_of (Or.inr rfl) ⟨rfl, z.2⟩⟩⟩, fun q => ⟨W0.kd, 1, o_noTe hl W0 F.1 ?_, fun q => absurd q (by decide), fun _ => ⟨W0.kd, _, o_thr1 hl hm W0 1, fun o h1 z => Or.inl ⟨1, z.1, bret_of (Or.inr rfl) ⟨rfl, z.2⟩⟩⟩⟩⟩⟩)
  rcases e with e | e
  · rw [e] at q; exact absurd q (by decide)
  · exact e
/-- both must be: which is wrong does not matter -/
def anB (A : Vs) (p t : Int32) (q : Int32 × Int32) : Int32 × Int32 := anP A p (anT A t q)
theorem anB1 {A : Vs} {p t : Int32} {q : Int32 × Int32} (B : Bd A) (e : noF (A 0 0) p = 1 ∨ noF (A 0 1) t = 1) : anB A p t q = (1, 0) := by
  unfold anB
  rcases person_cases B p with a | ⟨a, -⟩
  · exact anP1 a
  · rw [anP0 a]
    rcases e with e | e
    · rw [a] at e; exact absurd e (by decide)
    · exact anT1 e
theorem p_shuts (hl : G.1.stackTraces = false) (hm : G.n0 ≤ m) (W : WldAt h m A) (F : Wf A) (L : MLawOk G h m T) (p t : Int32) : EvM G m_Mo_shuts [.ref m, .int p, .int t] h (mans m h A (anP A p (anT A t (0, shutF T A p.toNatClampNeg t.toNatClampNeg)))) := by
  have W0 := W.thr 0
  have B := F.1
  have bad : noF (A 0 0) p = 1 ∨ noF (A 0 1) t = 1 → EvM G m_Mo_shuts [.ref m, .int p, .int t] h (mans m h A (anP A p (anT A t (0, shutF T A p.toNatClampNeg t.toNatClampNeg)))) := fun e => by
    rw [show anP A p (anT A t (0, shutF T A p.toNatClampNeg t.toNatClampNeg)) = (1, 0) from anB1 B e]
    refine en_Mo_shuts h _ m _ _ (e_Mo_shuts_0 hl h _ m _ _ ⟨W.kd, _, p_noBoth1 hl hm W F e, fun o h1 z => Or.inl ⟨1, z.1, fun q => absurd q (by decide), fun _ => ?_⟩⟩)
    rw [z.2]; exact mans1 fU0 W0 rfl
  rcases person_cases B p with e | ⟨e, k, hk, rfl⟩
  · exact bad (Or.inl e)
  · rcases thing_cases B t with e2 | ⟨e2, j, hj, rfl⟩
    · exact bad (Or.inr e2)
    · have j10 := B.T10 hj
      have k7 := B.P7 hk
      rw [anP0 e, anT0 e2, nI_clamp (by omega), nI_clamp (by omega)]
      refine en_Mo_shuts h _ m _ _ (e_Mo_shuts_0 hl h _ m _ _ ⟨W.kd, _, p_noBoth0 hl hm W F e e2, fun o h1 z => Or.inl ⟨0, z.1, fun _ => ?_, fun q => absurd rfl q⟩⟩)
      rw [z.2]
      refine ⟨W0.kd, _, o_isWith hl W0 j10 2 (nI k), fun c => ⟨fun _ => ?_, fun q => absurd rfl q⟩, fun c => ⟨W0.kd, _, o_lives hl W0 k7, fun d => ⟨fun _ => ?_, fun q => absurd rfl q⟩, fun d => ⟨W0.kd, _, o_heldBy hl W0 F _, fun f => ⟨fun _ => ?_, fun q => absurd rfl q⟩, fun f => ⟨W0.kd, _, o_canHold hl W0 F (L.thr 0) hk hj, fun o2 h2 y => Or.inl ?_⟩⟩⟩⟩
      · have : shutF T A k j = 0 := by unfold shutF; rw [if_neg (with1 c)]
        rw [this]; exact mans0 Fs.rf W0 rfl
      · have : shutF T A k j = 0 := by unfold shutF; rw [if_pos (with2 c), if_neg (ite0 d)]
        rw [this]; exact mans0 Fs.rf W0 rfl
      · have : shutF T A k j = 0 := by unfold shutF; rw [if_pos (with2 c), if_pos (ite1 d), if_neg f]
        rw [this]; exact mans0 Fs.rf W0 rfl
      · obtain ⟨y1, W2, F2⟩ := y
        have cb := cloth_bit (p := nI k) B hj
        rw [if_pos (with2 c)] at cb
        have cne : clothF A (nI k) ≠ 0 := fun z => by
          rw [z] at cb
          have hz := bit1_eq 0 (q := j) (by omega)
          rw [b_0] at hz
          rw [hz] at cb
          exact absurd cb (by decide)
        obtain ⟨kk, k0, k13, ek⟩ := bc_cloth B cne
        refine ⟨_, y1, fun g => ⟨fun _ => ?_, fun q => absurd rfl q⟩, fun g => ⟨fun q => absurd q (by decide), fun _ => ⟨W2.kd, _, o_onClothOf hl W2 B _, _, j_bitCount hl _, by rw [ek]; exact nI_ne0 k0 (by omega), ?_⟩⟩⟩
        · have : shutF T A k j = 0 := by
            unfold shutF; rw [if_pos (with2 c), if_pos (ite1 d), if_pos f, if_pos]
            by_cases y : gripF T A k < A 7 j
            · exact y
            · rw [if_neg y] at g; exact absurd g (by decide)
          rw [this]; exact mans0 F2 W2 rfl
        · have : shutF T A k j = 10000 / bcF (clothF A (nI k)) := by
            unfold shutF; rw [if_pos (with2 c), if_pos (ite1 d), if_pos f, if_neg (fun y => by rw [if_pos y] at g; exact g rfl)]
          rw [this]; exact mans0 F2 W2 rfl
theorem p_thing (hl : G.1.stackTraces = false) (hm : G.n0 ≤ m) (W : WldAt h m A) (F : Wf A) (t w : Int32) : EvM G m_Mo_thing [.ref m, .int t, .int w] h (mans m h A (anT A t (anN (nI 5) w 2 (0, thgF A t.toNatClampNeg w)))) := by
  have W0 := W.thr 0
  refine en_Mo_thing h _ m _ _ (e_Mo_thing_0 hl h _ m _ _ ⟨⟨hm, W.kd⟩, e_Mo_thing_5 hl _ _ m _ _ ?_⟩)
  rcases thing_cases F.1 t with e | ⟨e, k, hk, rfl⟩
  · rw [anT1 e]
    refine ⟨W0.kd, 1, o_noTe hl W0 F.1 e, W0.kd, _, o_thr1 hl hm W0 1, fun o h1 z => Or.inl ⟨1, z.1, fun _ => ?_, fun q => absurd q (by decide)⟩⟩
    rw [z.2]; exact mans1 fU0 W0 rfl
  · rw [anT0 e, nI_clamp (by have := F.1.T10 hk; omega)]
    refine ⟨W0.kd, 0, o_noTe hl W0 F.1 e, W0.kd, _, o_thr0 hl 1, fun o h1 z => Or.inl ⟨0, z.1, fun q => absurd rfl q, fun _ => ?_⟩⟩
    rw [z.2]
    rcases num_cases 5 (by decide) w with ⟨e2, c⟩ | ⟨e2, c1, c2, j, hj, rfl⟩
    · rw [anN1 e2]
      have e0 := (in_no4 (w := w) 4 (by decide)).1 e2
      refine ⟨0, o_ine hl e0, fun q => absurd rfl q, fun _ => ⟨W0.kd, _, o_thr1 hl hm W0 2, fun o h1 z => Or.inl ⟨1, z.1, fun q => absurd q (by decide), fun _ => ?_⟩⟩⟩
      rw [z.2]; exact mans1 fU0 W0 rfl
    · rw [anN0 e2]
      have e0 := (in_no4 (w := nI j) 4 (by decide)).2 e2
      refine ⟨1, o_ine hl e0, fun _ => ⟨W0.kd, _, o_thr0 hl 2, fun o h1 z => Or.inl ⟨0, z.1, fun _ => ?_, fun q => absurd rfl q⟩⟩, fun q => absurd q (by decide)⟩
      rw [z.2]
      refine ⟨W0.kd, _, o_ofThing hl W0 (F.1.T10 hk) hj, ?_⟩
      unfold thgF
      rw [nI_clamp (by omega)]
      exact mans0 Fs.rf W0 rfl
theorem o_ofLog (hl : G.1.stackTraces = false) (W : WldAt h m A) {k w : Nat} (hk : k < 60) (hw : w < 5) : EvI G m_Mo_ofLog [.ref m, .int (nI k), .int (nI w)] h (A (20 + w) k) := by
  refine en_Mo_ofLog h _ m _ _ (e_Mo_ofLog_0 hl h _ m _ _ ⟨_, W.r1, A (20 + w) k, ?_, rfl, rfl⟩)
  have e : (94 : Int32) + 5 * nI k + nI w = nI (94 + 5 * k + w) := by rw [show (94 : Int32) = nI 94 from rfl, show (5 : Int32) = nI 5 from rfl, pk_mul, nI_add, nI_add]
  rw [e]
  refine W.at (k := 20 + w) (j := k) (Or.inr (Or.inr (Or.inr ⟨by omega, by omega, hk⟩))) ?_
  unfold ad
  rw [if_neg (by omega), if_neg (by omega), if_neg (by omega)]
  omega
theorem p_log (hl : G.1.stackTraces = false) (hm : G.n0 ≤ m) (W : WldAt h m A) (F : Wf A) (ago w : Int32) : EvM G m_Mo_log [.ref m, .int ago, .int w] h (mans m h A (anN (nI 5) w 1 (0, lgF A ago w.toNatClampNeg))) := by
  have W0 := W.thr 0
  obtain ⟨hn, e7⟩ := logN_eq F
  refine en_Mo_log h _ m _ _ (e_Mo_log_0 hl h _ m _ _ ⟨⟨hm, W.kd⟩, e_Mo_log_5 hl _ _ m _ _ ?_⟩)
  rcases num_cases 5 (by decide) w with ⟨e2, c⟩ | ⟨e2, c1, c2, j, hj, rfl⟩
  · rw [anN1 e2]
    have e0 := (in_no4 (w := w) 4 (by decide)).1 e2
    refine ⟨0, o_ine hl e0, fun q => absurd rfl q, fun _ => ⟨W0.kd, _, o_thr1 hl hm W0 1, fun o h1 z => Or.inl ⟨1, z.1, fun q => absurd q (by decide), fun _ => ?_⟩⟩⟩
    rw [z.2]; exact mans1 fU0 W0 rfl
  · rw [anN0 e2, nI_clamp (by omega)]
    have e0 := (in_no4 (w := nI j) 4 (by decide)).2 e2
    refine ⟨1, o_ine hl e0, fun _ => ⟨W0.kd, _, o_thr0 hl 1, fun o h1 z => Or.inl ⟨0, z.1, fun _ => ?_, fun q => absurd rfl q⟩⟩, fun q => absurd q (by decide)⟩
    rw [z.2]
    have k := in_no (n := logN A) (x := ago) (by omega)
    rw [← e7] at k
    refine ⟨_, W0.r1, _, W0.at (k := 0) (j := 7) (n := 7) (d0 (by decide)) rfl, _, o_in hl _ _ _, fun c => ?_, fun c => ?_⟩
    · have := k.2 c
      have : lgF A ago j = -2 := by
        unfold lgF
        unfold noF at this
        by_cases d : ago < 0
        · rw [if_pos d]
        · rw [if_neg d] at this ⊢
          by_cases f : A 0 7 ≤ ago
          · rw [if_pos f]
          · rw [if_neg f] at this; exact absurd this (by decide)
      rw [this]; exact mans0 Fs.rf W0 rfl
    · have e3 := k.1 c
      rw [e7] at e3
      rcases noF_in (n := logN A) (x := ago) (by omega) with ⟨z, -⟩ | ⟨-, i, hi, rfl⟩
      · rw [e3] at z; exact absurd z (by decide)
      · refine ⟨W0.kd, _, o_ofLog hl W0 (by omega : i < 60) hj, ?_⟩
        have : lgF A (nI i) j = A (20 + j) i := by unfold lgF; rw [if_neg (nI_pos (by omega)), if_neg (by rw [e7]; exact nI_ge hi (by omega)), nI_clamp (by omega)]
        rw [this]; exact mans0 Fs.rf W0 rfl
def lateH (A : Vs) (p : Int32) : Nat → Nat → Int32 → Int32
  | 0, _, l => l
  | d + 1, t, l => if A 21 t = p then A 20 t else lateH A p d (t + 1) l
theorem lateH_snoc {A : Vs} {p : Int32} : ∀ d t l, lateH A p (d + 1) t l = lateH A p d t (if A 21 (t + d) = p then A 20 (t + d) else l)
  | 0, t, l => rfl
  | d + 1, t, l => by
    have := lateH_snoc (A := A) (p := p) d (t + 1) l
    rw [lateH, this, show t + 1 + d = t + (d + 1) by omega]
    rfl
theorem lateH_G {A : Vs} {p : Int32} : ∀ d t, lateH A p d t (-1) = lateG A p d t
  | 0, _ => rfl
  | d + 1, t => by rw [lateH, lateG, lateH_G d (t + 1)]
theorem p_led (hl : G.1.stackTraces = false) (hm : G.n0 ≤ m) (W : WldAt h m A) (F : Wf A) (p b : Int32) : EvM G m_Mo_led [.ref m, .int p, .int b] h (mans m h A (anP A p (0, ledF A p b))) := by
  have W0 := W.thr 0
  obtain ⟨hn, e7⟩ := logN_eq F
  refine en_Mo_led h _ m _ _ (e_Mo_led_0 hl h _ m _ _ ⟨⟨hm, W.kd⟩, e_Mo_led_5 hl _ _ m _ _ ?_⟩)
  rcases person_cases F.1 p with e | ⟨e, k, hk, rfl⟩
  · rw [anP1 e]
    refine ⟨W0.kd, 1, o_noPe hl W0 F.1 e, W0.kd, _, o_thr1 hl hm W0 1, fun o h1 z => Or.inl ⟨1, z.1, fun q => absurd q (by decide), fun _ => ?_⟩⟩
    rw [z.2]; exact mans1 fU0 W0 rfl
  · rw [anP0 e]
    refine ⟨W0.kd, 0, o_noPe hl W0 F.1 e, W0.kd, _, o_thr0 hl 1, fun o h1 z => Or.inl ⟨0, z.1, fun _ => ?_, fun q => absurd rfl q⟩⟩
    rw [z.2]
    refine ⟨_, W0.r1, _, W0.at (k := 0) (j := 7) (n := 7) (d0 (by decide)) rfl, ?_⟩
    rw [e7]
    have hh : ∀ d, d ≤ logN A → ∀ c l : Int32, c + rowsF A (nI k) d = rowsF A (nI k) (logN A) → lateH A (nI k) d 0 l = lateG A (nI k) (logN A) 0 → Ev G m_Mo_led 36 [.ref m, .int (nI k), .int b, .int c, .int l, .int (nI d - 1)] [] (hset h m 0 (.int 0)) 0 0 (mans m h A (0, ledF A (nI k) b)) := by
      intro d
      induction d with
      | zero =>
        intro _ c l hc hl2
        have e1 : c = rowsF A (nI k) (logN A) := by rw [← hc]; show c = c + 0; rw [Int32.add_zero]
        have e2 : l = lateG A (nI k) (logN A) 0 := hl2
        refine e_Mo_led_36 hl _ _ m _ _ _ _ _ ⟨fun _ => ⟨fun q => ?_, fun q => ?_⟩, fun q => absurd (by decide) q⟩
        · have : ledF A (nI k) b = c := by unfold ledF; rw [if_pos q, e1]
          rw [this]; exact mans0 Fs.rf W0 rfl
        · have : ledF A (nI k) b = l := by unfold ledF; rw [if_neg q, e2]
          rw [this]; exact mans0 Fs.rf W0 rfl
      | succ d ih =>
        intro hd c l hc hl2
        rw [nI_pred]
        have m1 : nI d + -1 = nI d - 1 := by grind
        have er : rowsF A (nI k) (d + 1) = if A 21 d = nI k then rowsF A (nI k) d + 1 else rowsF A (nI k) d := rfl
        rw [lateH_snoc, Nat.zero_add] at hl2
        refine e_Mo_led_36 hl _ _ m _ _ _ _ _ ⟨fun q => absurd q (nI_pos (by omega)), fun _ => ⟨W0.kd, _, o_ofLog hl W0 (by omega : d < 60) (w := 1) (by decide), fun q => ⟨W0.kd, _, o_ofLog hl W0 (by omega : d < 60) (w := 0) (by decide), ?_⟩, fun q => ?_⟩⟩
        · have q' : A 21 d = nI k := q
          rw [m1]
          refine ih (by omega) _ _ ?_ ?_
          · rw [er, if_pos q'] at hc
            rw [← hc, Int32.add_assoc, Int32.add_comm 1]
          · rw [if_pos q'] at hl2; exact hl2
        · have q' : ¬ A 21 d = nI k := q
          rw [m1]
          refine ih (by omega) _ _ ?_ ?_
          · rw [er, if_neg q'] at hc; exact hc
          · rw [if_neg q'] at hl2; exact hl2
    exact hh (logN A) (Nat.le_refl _) 0 (-1) (by rw [Int32.zero_add]) (lateH_G _ _)
end PUB3
