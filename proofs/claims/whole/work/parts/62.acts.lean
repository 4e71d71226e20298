/-! ===== acts: what they do; the class's ===== -/
abbrev Ra : Type := (Int32 × Int32) × Option Vs
def no_ (k : Int32) : Ra := ((k, 0), none)
def yes_ (v : Int32) (A : Vs) : Ra := ((0, v), some A)
def aNights (T : Tt) (A : Vs) (n : Int32) : Ra := if n < 1 then no_ 1 else if 60 < n then no_ 1 else yes_ (livN A - livN (passF T n.toNatClampNeg A)) (passF T n.toNatClampNeg A)
def aLay (A : Vs) (t p : Int32) : Ra := if noF (A 0 1) t = 1 then no_ 1 else if noF (A 0 0) p = 1 then no_ 1 else if (A 9 t.toNatClampNeg = 0 ∧ A 8 t.toNatClampNeg ≠ -1) ∧ A 5 p.toNatClampNeg = 1 then yes_ (bcF (clothF (mvA A t.toNatClampNeg 2 p) p)) (mvA A t.toNatClampNeg 2 p) else no_ 2
def aClear (A : Vs) (t : Int32) : Ra := if noF (A 0 1) t = 1 then no_ 1 else if A 9 t.toNatClampNeg = 2 then yes_ (A 10 t.toNatClampNeg) (mvA A t.toNatClampNeg 0 (-1)) else no_ 2
def aWake (T : Tt) (A : Vs) (t : Int32) : Ra := if noF (A 0 1) t = 1 then no_ 1 else if (A 9 t.toNatClampNeg = 0 ∧ A 8 t.toNatClampNeg ≠ -1) ∧ holdF A (A 8 t.toNatClampNeg) = -1 ∧ ¬ gripF T A (A 8 t.toNatClampNeg).toNatClampNeg < A 7 t.toNatClampNeg then yes_ (A 8 t.toNatClampNeg) (mvA A t.toNatClampNeg 1 (A 8 t.toNatClampNeg)) else no_ 2
def aOpen (A : Vs) (p : Int32) : Ra := if noF (A 0 0) p = 1 then no_ 1 else if holdF A p = -1 then no_ 2 else yes_ (holdF A p) (mvA A (holdF A p).toNatClampNeg 0 (-1))
def handA (A : Vs) (t p : Int32) : Vs := if t = -1 then A else up (mvA A t.toNatClampNeg 1 p) 8 t.toNatClampNeg p
def aSwap (A : Vs) (p q : Int32) : Ra := if noF (A 0 0) p = 1 then no_ 1 else if noF (A 0 0) q = 1 then no_ 1 else if p = q then no_ 2 else if A 5 p.toNatClampNeg = 1 ∧ A 5 q.toNatClampNeg = 1 then yes_ (holdF A q) (handA (handA A (holdF A p) q) (holdF A q) p) else no_ 3
def aHeir (A : Vs) (p o : Int32) : Ra := if noF (A 0 0) p = 1 then no_ 1 else if o ≠ -1 ∧ noF (A 0 0) o = 1 then no_ 1 else if p = o then no_ 2 else yes_ (A 3 p.toNatClampNeg) (up A 3 p.toNatClampNeg o)
def b01 (b : Int32) : Int32 := if b = 0 then 0 else 1
def aTie (A : Vs) (p b : Int32) : Ra := if noF (A 0 0) p = 1 then no_ 1 else yes_ (if A 4 p.toNatClampNeg = b01 b then 0 else 1) (up A 4 p.toNatClampNeg (b01 b))
def addP (A : Vs) (a g o w : Int32) : Vs := up (up (up (up (up (up A 1 (nP A) a) 2 (nP A) g) 3 (nP A) o) 4 (nP A) w) 5 (nP A) 1) 0 0 (A 0 0 + 1)
def aBorn (A : Vs) (g : Int32) : Ra := if g < 0 then no_ 1 else if 9 < g then no_ 1 else if 7 ≤ A 0 0 then no_ 2 else yes_ (A 0 0) (addP A 0 g (-1) 0)
def aGive (A : Vs) (t p : Int32) : Ra := if noF (A 0 1) t = 1 then no_ 1 else if noF (A 0 0) p = 1 then no_ 1 else if ((A 9 t.toNatClampNeg = 0 ∧ A 8 t.toNatClampNeg ≠ -1) ∧ A 5 p.toNatClampNeg = 1) ∧ A 8 t.toNatClampNeg ≠ p then yes_ (A 8 t.toNatClampNeg) (up A 8 t.toNatClampNeg p) else no_ 2
def CA (G : Gx) (h : Hp) (x la : Nat) (A : Vs) (T : Tt) (ln : Int32) (im : Option Sv) (pa : Nat → Vs) (r : Nat) (es : Int32 → String) (R : Ra) : Res → Hp → Prop := fun o h' => cans es (aX x) h R.1 o h' ∧ (match R.2 with
  | none => CVl G h' x la A T ln im pa r
  | some A' => CVl G h' x la A' T ln im (pcons A pa) (min (r + 1) 12))
section ACT
variable {G : Gx} {h h' : Hp} {x la : Nat} {A A' : Vs} {T : Tt} {ln : Int32} {im : Option Sv} {pa : Nat → Vs} {r : Nat} {es : Int32 → String}
theorem CA_th (C : CVl G h x la A T ln im pa r) {o : Res} {E : Nat} {k : Int32} (z : thrw E h o h') (hk : ¬ k = 0) (e : excs E = es k) : ∃ E', o = .inr E' ∧ CA G h x la A T ln im pa r es (no_ k) (.inr E') h' := by
  obtain ⟨E', e1, e2⟩ := thrw_cans (P := aX x) (y := 0) z Fs.rf hk e
  obtain ⟨z1, n, z2, rfl⟩ := z
  exact ⟨E', e1, e2, C.nx ⟨rfl, z2, fun _ _ _ => rfl⟩⟩
theorem CA_ok {v : Int32} (C : CVl G h' x la A' T ln im (pcons A pa) (min (r + 1) 12)) (F : Fs (aX x) h h') : CA G h x la A T ln im pa r es (yes_ v A') (.inl (some (.int v))) h' := ⟨cans_ok F, C⟩
theorem aX_now (F : Fs (inV (x + 27)) h h') : Fs (aX x) h h' := F.mono (fun a j z => by unfold inV at z; unfold aX; omega)
def rpost (G : Gx) (h : Hp) (x la : Nat) (A : Vs) (T : Tt) (ln : Int32) (im : Option Sv) (pa : Nat → Vs) (r : Nat) : Res → Hp → Prop := fun o h' => o = .inl none ∧ CVl G h' x la A T ln im (pcons A pa) (min (r + 1) 12) ∧ Fs (aX x) h h'
theorem c_remember (hl : G.1.stackTraces = false) (hx : G.n0 ≤ x) (C : CVl G h x la A T ln im pa r) : EvM G m_Gr_remember [.ref x] h (rpost G h x la A T ln im pa r) := by
  obtain ⟨S, V, L, I, np, n1, n2, n3, n4, n5⟩ := C
  refine en_Gr_remember h _ x (e_Gr_remember_0 hl h _ x ⟨_, S.r8, _, ⟨S.kd, n4⟩, _, S.past n1, _, S.r5, (S.vsP n1).kd, _, v_copy hl (by omega) (by unfold Ds; omega) V (S.vsP n1), fun o h1 z => Or.inl ?_⟩)
  obtain ⟨z1, V1, F1⟩ := z
  have kd1 : (h1.1 x).1 = 10 := by rw [F1.1]; exact S.kd
  have k : ∀ j, h1.2.1 x j = h.2.1 x j := fun j => F1.2.2 x j (by unfold inV; omega)
  refine ⟨z1, nI np, ⟨kd1, by rw [k]; exact n4⟩, by decide, ⟨hx, kd1⟩, ?_⟩
  have em : nI np + 1 - (nI np + 1) / 12 * 12 = nI ((np + 1) % 12) := by
    rw [nI_1]; exact pk_rem (by omega) (by decide) (by decide)
  rw [em]
  refine e_Gr_remember_29 hl _ _ x ⟨nI r, ⟨kd1, by rw [hs_ne (by omega), k]; exact n3⟩, ⟨hx, kd1⟩, ?_⟩
  have er : imin (nI r + 1) 12 = nI (min (r + 1) 12) := by rw [nI_1]; exact imin_nI (by omega) (by decide)
  rw [er]
  have F2 : Fs (pX x (x + 60 + 11 * np)) h (hset (hset h1 x 11 (.int (nI ((np + 1) % 12)))) x 10 (.int (nI (min (r + 1) 12)))) := ((pX_of (x := x) F1).set (Or.inl ⟨rfl, by decide⟩)).set (Or.inl ⟨rfl, by decide⟩)
  have V2 : VlyAt (hset (hset h1 x 11 (.int (nI ((np + 1) % 12)))) x 10 (.int (nI (min (r + 1) 12)))) (x + 60 + 11 * np) A la := V1.keep (fun a h1 h2 => ⟨rfl, by rw [hset_ne (by omega), hset_ne (by omega)]⟩)
  refine ⟨rfl, ⟨S.offX F2 (i0 := np + 3) (by omega) V2.vs, V.offX F2 (by omega) (by omega), L.offX F2 (by omega) (by omega), I.offX F2 (by rw [hs_ne (by omega), hs_ne (by omega), k]) (by omega) (by omega) (by omega), (np + 1) % 12, by omega, by omega, hs_eq, by rw [hs_ne (by omega), hs_eq], fun i hi => ?_⟩, pX_aX F2 (by omega) (by omega)⟩
  cases i with
  | zero =>
    rw [show ((np + 1) % 12 + 11 - 0) % 12 = np by omega]
    exact V2
  | succ i =>
    rw [show ((np + 1) % 12 + 11 - (i + 1)) % 12 = (np + 11 - i) % 12 by omega]
    exact (n5 i (by omega)).offX F2 (by omega) (by omega)
theorem v_free {v : Nat} (hl : G.1.stackTraces = false) (V : VlyAt h v A la) {t : Nat} (ht : t < 10) : EvI G m_Va_isFree [.ref v, .int (nI t)] h (if A 9 t = 0 ∧ A 8 t ≠ -1 then 1 else 0) := by
  have e : (if A 9 t = 0 then (if A 8 t = -1 then (0 : Int32) else 1) else 0) = (if A 9 t = 0 ∧ A 8 t ≠ -1 then 1 else 0) := by
    by_cases c : A 9 t = 0
    · by_cases d : A 8 t = -1
      · rw [if_pos c, if_pos d, if_neg (fun z => z.2 d)]
      · rw [if_pos c, if_neg d, if_pos ⟨c, d⟩]
    · rw [if_neg c, if_neg (fun z => c z.1)]
  rw [← e]; exact v_isFree hl V ht
theorem c_nights (hl : G.1.stackTraces = false) (hx : G.n0 ≤ x) (C : CVl G h x la A T ln im pa r) (W : Wf A) (n : Int32) : EvM G m_Gr_nights [.ref x, .int n] h (CA G h x la A T ln im pa r (es3 0 0 0) (aNights T A n)) := by
  unfold aNights
  refine en_Gr_nights h _ x _ (e_Gr_nights_0 hl h _ x _ ⟨fun c => ⟨_, c_needNumber0 hl, by decide, fun o h1 z => Or.inr ?_⟩, fun c => ⟨fun d => ⟨_, c_needNumber0 hl, by decide, fun o h1 z => Or.inr ?_⟩, fun d => ⟨_, c_needNumber1 hl, by decide, fun o h1 z => Or.inl ⟨z.1, ?_⟩⟩⟩⟩)
  · rw [if_pos c]; exact CA_th C z (by decide) rfl
  · rw [if_neg c, if_pos d]; exact CA_th C z (by decide) rfl
  · rw [z.2, if_neg c, if_neg d]
    obtain ⟨k, hk, rfl⟩ := nI_of (x := n) (fun q => c (Int32.lt_trans q (by decide)))
    rw [nI_clamp hk]
    refine ⟨C.S.kd, _, c_remember hl hx C, fun o2 h2 y => Or.inl ?_⟩
    obtain ⟨y1, C2, F2⟩ := y
    refine ⟨y1, _, C2.S.r5, C2.V.kd, _, v_pass hl (by omega) C2.dj C2.V W C2.L.1 hk, fun o3 h3 w => Or.inl ?_⟩
    obtain ⟨w1, V3, F3⟩ := w
    exact ⟨_, w1, CA_ok (C2.now V3 F3) (F2.tr (aX_now F3))⟩
theorem c_clear (hl : G.1.stackTraces = false) (hx : G.n0 ≤ x) (C : CVl G h x la A T ln im pa r) (W : Wf A) (t : Int32) : EvM G m_Gr_clear [.ref x, .int t] h (CA G h x la A T ln im pa r (es3 2 1 1) (aClear A t)) := by
  unfold aClear
  rcases thing_cases W.1 t with e | ⟨e, k, hk, rfl⟩
  · rw [if_pos e]
    exact en_Gr_clear h _ x _ (e_Gr_clear_0 hl h _ x _ ⟨C.S.kd, _, c_needThing0 hl C.S.r5 C.V e, by decide, fun o h1 z => Or.inr (CA_th C z (by decide) rfl)⟩)
  · have k10 := W.1.T10 hk
    rw [if_neg (by rw [e]; decide), nI_clamp (by omega)]
    refine en_Gr_clear h _ x _ (e_Gr_clear_0 hl h _ x _ ⟨C.S.kd, _, c_needThing1 hl C.S.r5 C.V e, by decide, fun o h1 z => Or.inl ⟨z.1, ?_⟩⟩)
    rw [z.2]
    refine ⟨_, C.S.r5, _, C.V.r10, _, C.V.a9 k10, fun c => ⟨_, c_needState0 hl, by decide, fun o h1 z => Or.inr ?_⟩, fun c => ⟨_, c_needState1 hl, by decide, fun o h1 z => Or.inl ⟨z.1, ?_⟩⟩⟩
    · rw [if_neg c]; exact CA_th C z (by decide) rfl
    · rw [z.2, if_pos c]
      refine ⟨C.S.kd, _, c_remember hl hx C, fun o2 h2 y => Or.inl ?_⟩
      obtain ⟨y1, C2, F2⟩ := y
      refine ⟨y1, _, C2.S.r5, _, C2.V.r11, _, C2.V.a10 k10, _, C2.S.r5, C2.V.kd, _, v_move hl (by omega) C2.V k10 0 (-1), fun o3 h3 w => Or.inl ?_⟩
      obtain ⟨w1, V3, F3⟩ := w
      exact ⟨w1, CA_ok (C2.now V3 F3) (F2.tr (aX_now F3))⟩
theorem c_open (hl : G.1.stackTraces = false) (hx : G.n0 ≤ x) (C : CVl G h x la A T ln im pa r) (W : Wf A) (p : Int32) : EvM G m_Gr_open [.ref x, .int p] h (CA G h x la A T ln im pa r (es3 2 1 1) (aOpen A p)) := by
  unfold aOpen
  rcases person_cases W.1 p with e | ⟨e, k, hk, rfl⟩
  · rw [if_pos e]
    exact en_Gr_open h _ x _ (e_Gr_open_0 hl h _ x _ ⟨C.S.kd, _, c_needPerson0 hl C.S.r5 C.V e, by decide, fun o h1 z => Or.inr (CA_th C z (by decide) rfl)⟩)
  · rw [if_neg (by rw [e]; decide)]
    refine en_Gr_open h _ x _ (e_Gr_open_0 hl h _ x _ ⟨C.S.kd, _, c_needPerson1 hl C.S.r5 C.V e, by decide, fun o h1 z => Or.inl ⟨z.1, ?_⟩⟩)
    rw [z.2]
    refine ⟨_, C.S.r5, C.V.kd, _, v_holding hl C.V W.1 _, fun c => ⟨_, c_needState0 hl, by decide, fun o h1 z => Or.inr ?_⟩, fun c => ⟨_, c_needState1 hl, by decide, fun o h1 z => Or.inl ⟨z.1, ?_⟩⟩⟩
    · rw [if_pos c]; exact CA_th C z (by decide) rfl
    · rw [z.2, if_neg c]
      refine ⟨C.S.kd, _, c_remember hl hx C, fun o2 h2 y => Or.inl ?_⟩
      obtain ⟨y1, C2, F2⟩ := y
      rcases holdF_spec A (nI k) with ⟨q, -⟩ | ⟨u, hu, q, -, -⟩
      · exact absurd q c
      · have u10 := W.1.T10 hu
        rw [q, nI_clamp (by omega)]
        refine ⟨y1, _, C2.S.r5, C2.V.kd, _, v_move hl (by omega) C2.V u10 0 (-1), fun o3 h3 w => Or.inl ?_⟩
        obtain ⟨w1, V3, F3⟩ := w
        exact ⟨w1, CA_ok (C2.now V3 F3) (F2.tr (aX_now F3))⟩
theorem c_lay (hl : G.1.stackTraces = false) (hx : G.n0 ≤ x) (C : CVl G h x la A T ln im pa r) (W : Wf A) (t p : Int32) : EvM G m_Gr_lay [.ref x, .int t, .int p] h (CA G h x la A T ln im pa r (es3 2 1 1) (aLay A t p)) := by
  unfold aLay
  rcases thing_cases W.1 t with e | ⟨e, k, hk, rfl⟩
  · rw [if_pos e]
    exact en_Gr_lay h _ x _ _ (e_Gr_lay_0 hl h _ x _ _ ⟨C.S.kd, _, c_needThing0 hl C.S.r5 C.V e, by decide, fun o h1 z => Or.inr (CA_th C z (by decide) rfl)⟩)
  · have k10 := W.1.T10 hk
    rw [if_neg (by rw [e]; decide), nI_clamp (by omega)]
    refine en_Gr_lay h _ x _ _ (e_Gr_lay_0 hl h _ x _ _ ⟨C.S.kd, _, c_needThing1 hl C.S.r5 C.V e, by decide, fun o h1 z => Or.inl ⟨z.1, ?_⟩⟩)
    rw [z.2]
    rcases person_cases W.1 p with e2 | ⟨e2, j, hj, rfl⟩
    · rw [if_pos e2]
      exact ⟨C.S.kd, _, c_needPerson0 hl C.S.r5 C.V e2, by decide, fun o h1 z => Or.inr (CA_th C z (by decide) rfl)⟩
    · have j7 := W.1.P7 hj
      rw [if_neg (by rw [e2]; decide), nI_clamp (by omega)]
      refine ⟨C.S.kd, _, c_needPerson1 hl C.S.r5 C.V e2, by decide, fun o h1 z => Or.inl ⟨z.1, ?_⟩⟩
      rw [z.2]
      refine ⟨_, C.S.r5, C.V.kd, _, v_free hl C.V k10, fun c => ⟨_, c_needState0 hl, by decide, fun o h1 z => Or.inr ?_⟩, fun c => ⟨_, C.S.r5, C.V.kd, _, v_living hl C.V W.1 hj, fun d => ⟨_, c_needState0 hl, by decide, fun o h1 z => Or.inr ?_⟩, fun d => ⟨_, c_needState1 hl, by decide, fun o h1 z => Or.inl ⟨z.1, ?_⟩⟩⟩⟩
      · rw [if_neg (fun q => ite0 c q.1)]; exact CA_th C z (by decide) rfl
      · rw [if_neg (fun q => ite0 d q.2)]; exact CA_th C z (by decide) rfl
      · rw [z.2, if_pos ⟨ite1 c, ite1 d⟩]
        refine ⟨C.S.kd, _, c_remember hl hx C, fun o2 h2 y => Or.inl ?_⟩
        obtain ⟨y1, C2, F2⟩ := y
        refine ⟨y1, _, C2.S.r5, C2.V.kd, _, v_move hl (by omega) C2.V k10 2 (nI j), fun o3 h3 w => Or.inl ?_⟩
        obtain ⟨w1, V3, F3⟩ := w
        have C3 := C2.now V3 F3
        have B3 : Bd (mvA A k 2 (nI j)) := Bd_up (Bd_up W.1 (by omega)) (by omega)
        exact ⟨w1, _, C3.S.r5, V3.kd, _, v_clothOf hl V3 B3 _, _, j_bitCount hl _, CA_ok C3 (F2.tr (aX_now F3))⟩
theorem c_wake (hl : G.1.stackTraces = false) (hx : G.n0 ≤ x) (C : CVl G h x la A T ln im pa r) (W : Wf A) (t : Int32) : EvM G m_Gr_wake [.ref x, .int t] h (CA G h x la A T ln im pa r (es3 2 1 1) (aWake T A t)) := by
  unfold aWake
  rcases thing_cases W.1 t with e | ⟨e, k, hk, rfl⟩
  · rw [if_pos e]
    exact en_Gr_wake h _ x _ (e_Gr_wake_0 hl h _ x _ ⟨C.S.kd, _, c_needThing0 hl C.S.r5 C.V e, by decide, fun o h1 z => Or.inr (CA_th C z (by decide) rfl)⟩)
  · have k10 := W.1.T10 hk
    rw [if_neg (by rw [e]; decide), nI_clamp (by omega)]
    refine en_Gr_wake h _ x _ (e_Gr_wake_0 hl h _ x _ ⟨C.S.kd, _, c_needThing1 hl C.S.r5 C.V e, by decide, fun o h1 z => Or.inl ⟨z.1, ?_⟩⟩)
    rw [z.2]
    refine ⟨_, C.S.r5, C.V.kd, _, v_free hl C.V k10, ?_⟩
    by_cases fr : A 9 k = 0 ∧ A 8 k ≠ -1
    · rw [if_pos fr]
      refine ⟨_, c_needState1 hl, by decide, fun o h1 z => Or.inl ⟨z.1, ?_⟩⟩
      rw [z.2]
      rcases (W.2.2.2.1 k hk).1 with ow | ⟨q, hq, ow, lv⟩
      · exact absurd ow fr.2
      · have q7 := W.1.P7 hq
        refine ⟨_, C.S.r5, _, C.V.r9, _, C.V.a8 k10, ?_⟩
        rw [ow, nI_clamp (by omega)]
        refine ⟨_, C.S.r5, C.V.kd, _, v_living hl C.V W.1 hq, fun c => absurd lv (ite0 c), fun _ => ⟨_, C.S.r5, C.V.kd, _, v_holding hl C.V W.1 _, fun c => ⟨_, c_needState0 hl, by decide, fun o h1 z => Or.inr ?_⟩, fun c => ⟨_, C.S.r5, C.V.kd, _, v_fits hl C.V W C.L.1 hq hk, fun d => ⟨_, c_needState0 hl, by decide, fun o h1 z => Or.inr ?_⟩, fun d => ⟨_, c_needState1 hl, by decide, fun o h1 z => Or.inl ⟨z.1, ?_⟩⟩⟩⟩⟩
        · rw [if_neg (fun q => c q.2.1)]; exact CA_th C z (by decide) rfl
        · rw [if_neg (fun q => by rw [if_neg q.2.2] at d; exact absurd d (by decide))]; exact CA_th C z (by decide) rfl
        · have ng : ¬ gripF T A q < A 7 k := fun g => by rw [if_pos g] at d; exact absurd rfl d
          rw [z.2, if_pos ⟨by rw [← ow]; exact fr, c, ng⟩]
          refine ⟨C.S.kd, _, c_remember hl hx C, fun o2 h2 y => Or.inl ?_⟩
          obtain ⟨y1, C2, F2⟩ := y
          refine ⟨y1, _, C2.S.r5, C2.V.kd, _, v_move hl (by omega) C2.V k10 1 (nI q), fun o3 h3 w => Or.inl ?_⟩
          obtain ⟨w1, V3, F3⟩ := w
          exact ⟨w1, CA_ok (C2.now V3 F3) (F2.tr (aX_now F3))⟩
    · rw [if_neg fr, if_neg (fun q => fr q.1)]
      exact ⟨_, c_needState0 hl, by decide, fun o h1 z => Or.inr (CA_th C z (by decide) rfl)⟩
end ACT
