/-! ===== fed, cut: both sides ===== -/
def byF (w : Int32) (i : Nat) : Nat := ((w.toUInt32 >>> ((nI (24 - 8 * i)).toUInt32 &&& Int32.toUInt32 31)).toInt32).toBitVec.toNat % 256
theorem byF_lt {w : Int32} {i : Nat} : byF w i < 256 := Nat.mod_lt _ (by decide)
theorem byF_c (w : Int32) (i : Nat) : ((w.toUInt32 >>> ((nI (24 - 8 * i)).toUInt32 &&& Int32.toUInt32 31)).toInt32) &&& 255 = nI (byF w i) := pk_and _ 8 rfl
theorem sx_8 : ∀ k, k < 256 → (Int8.ofNat k).toInt32 = sx k ∧ (sx k).toInt8.toInt32 = sx k := by decide +kernel
theorem toI8 (y : Int32) : y.toInt8.toInt32 = sx (y.toBitVec.toNat % 256) := by
  have hk : y.toBitVec.toNat % 256 < 256 := Nat.mod_lt _ (by decide)
  rw [← (sx_8 _ hk).1]
  congr 1
  apply Int8.toBitVec_inj.mp
  show y.toBitVec.signExtend 8 = BitVec.ofNat 8 (y.toBitVec.toNat % 256)
  rw [BitVec.signExtend_eq_setWidth_of_le _ (by decide)]
  apply BitVec.eq_of_toNat_eq
  simp
theorem byF_m (w : Int32) {i : Nat} (hi : i < 4) : (w >>> (nI (24 - 8 * i) &&& 31)).toInt8.toInt32 = sx (byF w i) := by
  rw [toI8]
  congr 1
  have e : (w >>> (nI (24 - 8 * i) &&& 31)) &&& 255 = ((w.toUInt32 >>> ((nI (24 - 8 * i)).toUInt32 &&& Int32.toUInt32 31)).toInt32) &&& 255 := by
    refine b_ext (fun j hj => ?_)
    rw [b_and, b_and, b_sshr _ (by omega) _ hj, b_ushr _ (by omega), b_255]
    by_cases c : j < 8
    · rw [if_pos (by omega)]
    · simp [c]
  rw [byF_c, pk_and _ 8 (m := 255) rfl] at e
  exact (nI_eq (Nat.lt_of_lt_of_le (Nat.mod_lt _ (by decide)) (by decide)) (Nat.lt_of_lt_of_le byF_lt (by decide))).mp e
def bAddI (b : Nat → Nat) (n : Nat) (w : Int32) (i : Nat) : Nat → Nat := fun j => if n ≤ j ∧ j < n + i then byF w (j - n) else b j
def bFeed (b : Nat → Nat) (n : Nat) (w1 w2 w3 w4 w5 : Int32) : Nat → Nat := bAddI (bAddI (bAddI (bAddI (bAddI b n w1 4) (n + 4) w2 4) (n + 8) w3 4) (n + 12) w4 4) (n + 16) w5 4
def tQ (x : Nat) : Nat → Nat → Prop := fun a j => (a = x + 1 ∧ 1 ≤ j) ∨ a = x + 2
def shA (i : Nat) : Int32 := if i < 4 then nI (24 - 8 * i) else -8
theorem shA_s : ∀ i, i < 4 → shA i + (-8) = shA (i + 1) := by decide +kernel
section FEED
variable {G : Gx} {h h' h1 : Hp} {x la m : Nat} {A A' : Vs} {T : Tt} {ln : Int32} {im im' : Option Sv} {pa pa' : Nat → Vs} {r r' : Nat} {b : Nat → Nat} {n u e : Nat} {fl : Int32}
theorem bAddI_0 {w : Int32} : bAddI b n w 0 = b := by funext j; unfold bAddI; rw [if_neg (by omega)]
theorem t_add (hl : G.1.stackTraces = false) (hx : G.n0 ≤ x) (Tp : TpC h x b n u) (hn : n + 4 ≤ 400) (w : Int32) : EvM G m_Ta_add [.ref (x + 1), .int w] h (fun o h' => o = .inl none ∧ TpC h' x (bAddI b n w 4) (n + 4) u ∧ Fs (tQ x) h h') := by
  refine en_Ta_add h _ _ _ (e_Ta_add_0 hl h _ _ _ ?_)
  refine for_up (Q := fun i => ∀ g : Hp, TpC g x (bAddI b n w i) (n + i) u → Fs (tQ x) h g → Ev G m_Ta_add 3 [.ref (x + 1), .int w, .int (shA i)] [] g 0 0 (fun o h' => o = .inl none ∧ TpC h' x (bAddI b n w 4) (n + 4) u ∧ Fs (tQ x) h h')) (n := 4) ?_ (fun i hi ih => ?_) 0 (Nat.zero_le _) h (by rw [bAddI_0]; exact Tp) Fs.rf
  · intro g Tg F
    exact e_Ta_add_3 hl g _ _ _ _ ⟨fun _ => ⟨rfl, Tg, F⟩, fun c => absurd (by decide) c⟩
  · intro g Tg F
    have es : shA i = nI (24 - 8 * i) := by unfold shA; rw [if_pos hi]
    rw [es]
    refine e_Ta_add_3 hl g _ _ _ _ ⟨fun c => absurd c (nI_pos (by omega)), fun _ => ⟨_, Tg.f1, fun c => absurd c (nI_ge (b := 400) (by omega) (by decide)), fun _ => ⟨_, Tg.r0, _, Tg.f1, aW_of (by omega) Tg.2.1 (by omega) (by decide), ?_⟩⟩⟩
    rw [byF_c, nI_clamp (by omega)]
    refine e_Ta_add_33 hl _ _ _ _ _ ⟨nI (n + i), ⟨Tg.kd, by rw [hs_ne (by omega)]; exact Tg.2.2.2.1⟩, ⟨by omega, Tg.kd⟩, ?_⟩
    refine e_Ta_add_43 hl _ _ _ _ _ ?_
    rw [← es, shA_s i hi, nI_1]
    obtain ⟨t1, t2, t3, t4, t5, t6, t7⟩ := Tg
    refine ih _ ⟨t1, t2, by rw [hs_ne (by omega), hs_ne (by omega)]; exact t3, hs_eq, by rw [hs_ne (by omega), hs_ne (by omega)]; exact t5, ⟨by omega, t6.2⟩, fun j hj => ?_⟩ ((F.set (Or.inr rfl)).set (Or.inl ⟨rfl, by decide⟩))
    rw [hs_ne (by omega)]
    by_cases z : j = n + i
    · subst z
      have e1 : bAddI b n w (i + 1) (n + i) = byF w i := by unfold bAddI; rw [if_pos (by omega), show n + i - n = i by omega]
      rw [e1, hs_eq]; exact ⟨byF_lt, rfl⟩
    · have e1 : bAddI b n w (i + 1) j = bAddI b n w i j := by
        unfold bAddI
        by_cases q : n ≤ j ∧ j < n + i
        · rw [if_pos q, if_pos (by omega)]
        · rw [if_neg q, if_neg (by omega)]
      rw [e1, hs_ne (by omega)]; exact t7 j hj
theorem CT.fed (C : CT G h x la A T ln im pa r b n fl) {b' : Nat → Nat} {n' : Nat} (Tp : TpC h' x b' n' u) (F : Fs (tQ x) h h') : CT G h' x la A T ln im pa r b' n' fl := by
  obtain ⟨C0, -, S, e⟩ := C
  exact ⟨C0.keep F (fun a j h1 h2 q z => by unfold tQ at z; omega) (fun a j q z => by unfold tQ at z; omega), ⟨u, Tp⟩, S.keep (fun a _ _ => by rw [F.1]) (fun a j z => F.2.2 a j (by unfold xR at z; unfold tQ; omega)), by rw [F.2.2 x 12 (by unfold tQ; omega)]; exact e⟩
theorem tQ_Z (F : Fs (tQ x) h h') : Fs (xZ x) h h' := F.mono (fun a j z => by unfold tQ at z; unfold xZ; omega)
theorem CT.n400 (C : CT G h x la A T ln im pa r b n fl) : n ≤ 400 := by obtain ⟨-, ⟨u, T⟩, -⟩ := C; exact T.2.2.2.2.2.1.1
theorem t_room (hl : G.1.stackTraces = false) (Tp : TpC h x b n u) : EvI G m_Ta_hasRoom [.ref (x + 1)] h (if n + 20 ≤ 400 then 1 else 0) := by
  have := Tp.2.2.2.2.2.1.1
  refine en_Ta_hasRoom h _ _ (e_Ta_hasRoom_0 hl h _ _ ⟨_, Tp.f1, fun c => ⟨?_, rfl⟩, fun c => ⟨?_, rfl⟩⟩)
  · rw [show nI n + 20 = nI (n + 20) from nI_add n 20] at c
    have := (nI_ltI (a := 400) (by decide) (by omega)).mp c
    rw [if_neg (by omega)]
  · rw [show nI n + 20 = nI (n + 20) from nI_add n 20] at c
    rw [if_pos (by
      rcases Nat.lt_or_ge 400 (n + 20) with q | q
      · exact absurd (nI_lt (a := 400) q (by omega)) c
      · exact q)]
/-- fed with no room; with room -/
theorem c_feed0 (hl : G.1.stackTraces = false) (C : CT G h x la A T ln im pa r b n fl) (hn : ¬ n + 20 ≤ 400) (w1 w2 w3 w4 w5 : Int32) : EvM G m_Gr_feed [.ref x, .int w1, .int w2, .int w3, .int w4, .int w5] h (fun o h' => o = .inl (some (.int (-1))) ∧ h' = h) := by
  obtain ⟨C0, ⟨u, Tp⟩, S, e⟩ := C
  have q := t_room hl Tp
  rw [if_neg hn] at q
  exact en_Gr_feed h _ x _ _ _ _ _ (e_Gr_feed_0 hl h _ x _ _ _ _ _ ⟨_, C0.S.r0, Tp.kd, _, q, fun z => absurd rfl z, fun _ => ⟨rfl, rfl⟩⟩)
theorem c_feed1 (hl : G.1.stackTraces = false) (hx : G.n0 ≤ x) (C : CT G h x la A T ln im pa r b n fl) (hn : n + 20 ≤ 400) (w1 w2 w3 w4 w5 : Int32) : EvM G m_Gr_feed [.ref x, .int w1, .int w2, .int w3, .int w4, .int w5] h (fun o h' => o = .inl (some (.int (nI (n + 20)))) ∧ CT G h' x la A T ln im pa r (bFeed b n w1 w2 w3 w4 w5) (n + 20) fl ∧ Fs (xZ x) h h') := by
  obtain ⟨u, Tp⟩ := C.2.1
  have q := t_room hl Tp
  rw [if_pos hn] at q
  refine en_Gr_feed h _ x _ _ _ _ _ (e_Gr_feed_0 hl h _ x _ _ _ _ _ ⟨_, C.S.r0, Tp.kd, _, q, fun _ => ⟨_, C.S.r0, Tp.kd, _, t_add hl hx Tp (by omega) w1, fun o1 h1 z1 => Or.inl ?_⟩, fun z => absurd z (by decide)⟩)
  have C1 := C.fed z1.2.1 z1.2.2
  refine ⟨z1.1, _, C1.S.r0, C1.tk, _, t_add hl hx z1.2.1 (by omega) w2, fun o2 h2 z2 => Or.inl ?_⟩
  have C2 := C1.fed z2.2.1 z2.2.2
  refine ⟨z2.1, _, C2.S.r0, C2.tk, _, t_add hl hx z2.2.1 (by omega) w3, fun o3 h3 z3 => Or.inl ?_⟩
  have C3 := C2.fed z3.2.1 z3.2.2
  refine ⟨z3.1, _, C3.S.r0, C3.tk, _, t_add hl hx z3.2.1 (by omega) w4, fun o4 h4 z4 => Or.inl ?_⟩
  have C4 := C3.fed z4.2.1 z4.2.2
  refine ⟨z4.1, _, C4.S.r0, C4.tk, _, t_add hl hx z4.2.1 (by omega) w5, fun o5 h5 z5 => Or.inl ?_⟩
  have C5 := C4.fed z5.2.1 z5.2.2
  exact ⟨z5.1, _, C5.S.r0, _, z5.2.1.f1, rfl, C5, (((((tQ_Z z1.2.2).tr (tQ_Z z2.2.2)).tr (tQ_Z z3.2.2)).tr (tQ_Z z4.2.2)).tr (tQ_Z z5.2.2))⟩
def cutF (n : Nat) (k : Int32) : Int32 := if k < 0 then 0 else if k ≤ nI n then 1 else 0
theorem c_end (hl : G.1.stackTraces = false) (hx : G.n0 ≤ x) (C : CT G h x la A T ln im pa r b n fl) (k : Int32) : EvM G m_Gr_end [.ref x, .int k] h (fun o h' => o = .inl (some (.int (cutF n k))) ∧ CT G h' x la A T ln im pa r b (if cutF n k = 0 then n else k.toNatClampNeg) fl ∧ Fs (xZ x) h h') := by
  obtain ⟨u, Tp⟩ := C.2.1
  have n4 := Tp.2.2.2.2.2.1
  have cut : EvM G m_Ta_cut [.ref (x + 1), .int k] h (fun o h' => o = .inl (some (.int (cutF n k))) ∧ CT G h' x la A T ln im pa r b (if cutF n k = 0 then n else k.toNatClampNeg) fl ∧ Fs (xZ x) h h') := by
    refine en_Ta_cut h _ _ _ (e_Ta_cut_0 hl h _ _ _ ⟨fun c => ?_, fun c => ⟨_, Tp.f1, fun d => ⟨⟨by omega, Tp.kd⟩, e_Ta_cut_19 hl _ _ ?_⟩, fun d => ?_⟩⟩)
    · have : cutF n k = 0 := by unfold cutF; rw [if_pos c]
      rw [this, if_pos rfl]; exact ⟨rfl, C, Fs.rf⟩
    · have : cutF n k = 1 := by unfold cutF; rw [if_neg c, if_pos d]
      rw [this, if_neg (by decide)]
      obtain ⟨j, hj, rfl⟩ := nI_of c
      have jn := (nI_leI hj (by omega)).mp d
      rw [nI_clamp hj]
      have F : Fs (tQ x) h (hset h (x + 1) 1 (.int (nI j))) := Fs.rf.set (Or.inl ⟨rfl, by decide⟩)
      obtain ⟨t1, t2, t3, t4, t5, t6, t7⟩ := Tp
      exact ⟨rfl, C.fed (u := u) ⟨t1, t2, by rw [hs_ne (by omega)]; exact t3, hs_eq, by rw [hs_ne (by omega)]; exact t5, ⟨by omega, t6.2⟩, fun i hi => ⟨(t7 i hi).1, by rw [hs_ne (by omega)]; exact (t7 i hi).2⟩⟩ F, tQ_Z F⟩
    · have : cutF n k = 0 := by unfold cutF; rw [if_neg c, if_neg d]
      rw [this, if_pos rfl]; exact ⟨rfl, C, Fs.rf⟩
  refine en_Gr_end h _ x _ (e_Gr_end_0 hl h _ x _ ⟨_, C.S.r0, Tp.kd, _, cut, fun o h2 z => Or.inl ⟨_, z.1, bret_of ?_ ⟨rfl, z.2⟩⟩⟩)
  unfold cutF
  split
  · exact Or.inl rfl
  · split
    · exact Or.inr rfl
    · exact Or.inl rfl
theorem c_fault (hl : G.1.stackTraces = false) (C : CT G h x la A T ln im pa r b n fl) : EvI G m_Gr_fault [.ref x] h fl := en_Gr_fault h _ x (e_Gr_fault_0 hl h _ x ⟨_, ⟨C.S.kd, C.2.2.2⟩, rfl, rfl⟩)
theorem p_fault (hl : G.1.stackTraces = false) (hm : G.n0 ≤ m) (X : MT G h m A T ln im pa r b n fl) : EvM G m_Mo_fault [.ref m] h (MQt G h m A T ln im pa r b n fl (0, fl)) := by
  have X0 := X.thr 0
  exact en_Mo_fault h _ m (e_Mo_fault_0 hl h _ m ⟨⟨hm, X.W.kd⟩, e_Mo_fault_5 hl _ _ m ⟨_, ⟨X0.W.kd, X0.2.2⟩, rfl, hs_eq, X0, Fs.rf.set (by unfold mZ; omega)⟩⟩)
def mQ (m : Nat) : Nat → Nat → Prop := fun a j => (a = m ∧ j = 9) ∨ a = m + 6 ∨ a = m + 7
theorem MT.fed (X : MT G h m A T ln im pa r b n fl) {b' : Nat → Nat} {n' : Nat} (Tp : TpM h' m b' n' e) (F : Fs (mQ m) h h') : MT G h' m A T ln im pa r b' n' fl :=
  ⟨X.1.keep F (fun a j h1 h2 q z => by unfold mQ at z; omega), ⟨e, Tp⟩, by rw [F.2.2 m 14 (by unfold mQ; omega)]; exact X.2.2⟩
theorem mQ_Z (F : Fs (mQ m) h h') : Fs (mZ m) h h' := F.mono (fun a j z => by unfold mQ at z; unfold mZ; omega)
theorem p_end (hl : G.1.stackTraces = false) (hm : G.n0 ≤ m) (X : MT G h m A T ln im pa r b n fl) (k : Int32) : EvM G m_Mo_end [.ref m, .int k] h (MQt G h m A T ln im pa r b (if cutF n k = 0 then n else k.toNatClampNeg) fl (0, cutF n k)) := by
  have X0 := X.thr 0
  obtain ⟨e, Tp⟩ := X0.2.1
  have n4 := Tp.2.2.2.2.2.1
  have F0 : Fs (mZ m) h (hset h m 0 (.int 0)) := Fs.rf.set (by unfold mZ; omega)
  refine en_Mo_end h _ m _ (e_Mo_end_0 hl h _ m _ ⟨⟨hm, X.W.kd⟩, e_Mo_end_5 hl _ _ m _ ⟨fun c => ?_, fun c => ⟨_, Tp.f9, fun d => ⟨⟨hm, Tp.kd⟩, e_Mo_end_24 hl _ _ ?_⟩, fun d => ?_⟩⟩⟩)
  · have : cutF n k = 0 := by unfold cutF; rw [if_pos c]
    rw [this, if_pos rfl]; exact ⟨rfl, hs_eq, X0, F0⟩
  · have : cutF n k = 1 := by unfold cutF; rw [if_neg c, if_pos d]
    rw [this, if_neg (by decide)]
    obtain ⟨j, hj, rfl⟩ := nI_of c
    have jn := (nI_leI hj (by omega)).mp d
    rw [nI_clamp hj]
    have F : Fs (mQ m) (hset h m 0 (.int 0)) (hset (hset h m 0 (.int 0)) m 9 (.int (nI j))) := Fs.rf.set (Or.inl ⟨rfl, rfl⟩)
    obtain ⟨t1, t2, t3, t4, t5, t6, t7⟩ := Tp
    exact ⟨rfl, by rw [hs_ne (by omega)]; exact hs_eq, X0.fed (e := e) ⟨t1, t2, by rw [hs_ne (by omega)]; exact t3, hs_eq, by rw [hs_ne (by omega)]; exact t5, ⟨by omega, t6.2⟩, fun i hi => ⟨(t7 i hi).1, by rw [hs_ne (by omega)]; exact (t7 i hi).2⟩⟩ F, F0.tr (mQ_Z F)⟩
  · have : cutF n k = 0 := by unfold cutF; rw [if_neg c, if_neg d]
    rw [this, if_pos rfl]; exact ⟨rfl, hs_eq, X0, F0⟩
def w5F (w1 w2 w3 w4 w5 : Int32) (k : Nat) : Int32 := match k with
  | 0 => w1
  | 1 => w2
  | 2 => w3
  | 3 => w4
  | _ => w5
def bUp (b : Nat → Nat) (n : Nat) (w1 w2 w3 w4 w5 : Int32) (k : Nat) : Nat → Nat := fun j => if n ≤ j ∧ j < n + k then byF (w5F w1 w2 w3 w4 w5 ((j - n) / 4)) ((j - n) % 4) else b j
theorem bUp_20 {w1 w2 w3 w4 w5 : Int32} : bUp b n w1 w2 w3 w4 w5 20 = bFeed b n w1 w2 w3 w4 w5 := by
  funext j
  unfold bFeed bAddI bUp
  by_cases c : n ≤ j ∧ j < n + 20
  · rw [if_pos c]
    obtain ⟨i, rfl⟩ : ∃ i, j = n + i := ⟨j - n, by omega⟩
    have hi : i < 20 := by omega
    rw [show n + i - n = i by omega]
    by_cases c5 : 16 ≤ i
    · rw [if_pos (by omega), show i / 4 = 4 by omega, show i % 4 = n + i - (n + 16) by omega]; rfl
    · rw [if_neg (by omega)]
      by_cases c4 : 12 ≤ i
      · rw [if_pos (by omega), show i / 4 = 3 by omega, show i % 4 = n + i - (n + 12) by omega]; rfl
      · rw [if_neg (by omega)]
        by_cases c3 : 8 ≤ i
        · rw [if_pos (by omega), show i / 4 = 2 by omega, show i % 4 = n + i - (n + 8) by omega]; rfl
        · rw [if_neg (by omega)]
          by_cases c2 : 4 ≤ i
          · rw [if_pos (by omega), show i / 4 = 1 by omega, show i % 4 = n + i - (n + 4) by omega]; rfl
          · rw [if_neg (by omega), if_pos (by omega), show i / 4 = 0 by omega, show i % 4 = i by omega]; rfl
  · rw [if_neg c, if_neg (by omega), if_neg (by omega), if_neg (by omega), if_neg (by omega), if_neg (by omega)]
theorem p_feed0 (hl : G.1.stackTraces = false) (hm : G.n0 ≤ m) (X : MT G h m A T ln im pa r b n fl) (hn : ¬ n + 20 ≤ 400) (w1 w2 w3 w4 w5 : Int32) : EvM G m_Mo_feed [.ref m, .int w1, .int w2, .int w3, .int w4, .int w5] h (MQt G h m A T ln im pa r b n fl (0, -1)) := by
  have X0 := X.thr 0
  obtain ⟨e, Tp⟩ := X0.2.1
  have n4 := Tp.2.2.2.2.2.1
  refine en_Mo_feed h _ m _ _ _ _ _ (e_Mo_feed_0 hl h _ m _ _ _ _ _ ⟨⟨hm, X.W.kd⟩, e_Mo_feed_5 hl _ _ m _ _ _ _ _ ⟨_, Tp.f9, fun c => ?_, fun _ => ⟨rfl, hs_eq, X0, Fs.rf.set (by unfold mZ; omega)⟩⟩⟩)
  rw [show nI n + 20 = nI (n + 20) from nI_add n 20] at c
  exact absurd ((nI_leI (b := 400) (by omega) (by decide)).mp c) hn
theorem p_feed1 (hl : G.1.stackTraces = false) (hm : G.n0 ≤ m) (X : MT G h m A T ln im pa r b n fl) (hn : n + 20 ≤ 400) (w1 w2 w3 w4 w5 : Int32) : EvM G m_Mo_feed [.ref m, .int w1, .int w2, .int w3, .int w4, .int w5] h (MQt G h m A T ln im pa r (bFeed b n w1 w2 w3 w4 w5) (n + 20) fl (0, nI (n + 20))) := by
  have X0 := X.thr 0
  obtain ⟨e, Tp⟩ := X0.2.1
  have n4 := Tp.2.2.2.2.2.1
  have s7 : (hset h m 0 (.int 0)).1 (m + 7) = (101, 5) := X.W.1.2.2.2.2.2.2.2.1
  have r15 : (hset h m 0 (.int 0)).2.1 m 15 = .ref (m + 7) := X0.W.1.1.2.2.2.2.2.2.2.1
  have kd : ((hset h m 0 (.int 0)).1 m).1 = 11 := X.W.kd
  refine en_Mo_feed h _ m _ _ _ _ _ (e_Mo_feed_0 hl h _ m _ _ _ _ _ ⟨⟨hm, X.W.kd⟩, ?_⟩)
  generalize hg : hset h m 0 (.int 0) = g at *
  have F0 : Fs (mZ m) h g := by rw [← hg]; exact Fs.rf.set (by unfold mZ; omega)
  have e0 : g.2.1 m 0 = .int 0 := by rw [← hg]; exact hs_eq
  have aw : ∀ (g' : Hp) (k : Nat), g'.1 = g.1 → k < 5 → aW G g' 101 (m + 7) (nI k) := fun g' k q hk => aW_of (by omega) (by rw [q]; exact s7) hk (by decide)
  refine e_Mo_feed_5 hl _ _ m _ _ _ _ _ ⟨_, Tp.f9, fun _ => ⟨_, ⟨kd, r15⟩, aw _ 0 rfl (by decide), ?_⟩, fun c => absurd (by rw [show nI n + 20 = nI (n + 20) from nI_add n 20]; exact nI_le (b := 400) hn (by decide)) c⟩
  refine e_Mo_feed_27 hl _ _ m _ _ _ _ ⟨_, ⟨kd, by rw [hs_ne (by omega)]; exact r15⟩, aw _ 1 rfl (by decide), ?_⟩
  refine e_Mo_feed_34 hl _ _ m _ _ _ ⟨_, ⟨kd, by rw [hs_ne (by omega), hs_ne (by omega)]; exact r15⟩, aw _ 2 rfl (by decide), ?_⟩
  refine e_Mo_feed_41 hl _ _ m _ _ ⟨_, ⟨kd, by rw [hs_ne (by omega), hs_ne (by omega), hs_ne (by omega)]; exact r15⟩, aw _ 3 rfl (by decide), ?_⟩
  refine e_Mo_feed_49 hl _ _ m _ ⟨_, ⟨kd, by rw [hs_ne (by omega), hs_ne (by omega), hs_ne (by omega), hs_ne (by omega)]; exact r15⟩, aw _ 4 rfl (by decide), ?_⟩
  rw [show (0 : Int32).toNatClampNeg = 0 from rfl, show (1 : Int32).toNatClampNeg = 1 from rfl, show (2 : Int32).toNatClampNeg = 2 from rfl, show (3 : Int32).toNatClampNeg = 3 from rfl, show (4 : Int32).toNatClampNeg = 4 from rfl]
  have F5 : Fs (mQ m) g (hset (hset (hset (hset (hset g (m + 7) 0 (.int w1)) (m + 7) 1 (.int w2)) (m + 7) 2 (.int w3)) (m + 7) 3 (.int w4)) (m + 7) 4 (.int w5)) := (((((Fs.rf.set (Or.inr (Or.inr rfl))).set (Or.inr (Or.inr rfl))).set (Or.inr (Or.inr rfl))).set (Or.inr (Or.inr rfl))).set (Or.inr (Or.inr rfl)))
  have fv : ∀ k, k < 5 → (hset (hset (hset (hset (hset g (m + 7) 0 (.int w1)) (m + 7) 1 (.int w2)) (m + 7) 2 (.int w3)) (m + 7) 3 (.int w4)) (m + 7) 4 (.int w5)).2.1 (m + 7) k = .int (w5F w1 w2 w3 w4 w5 k) := fun k hk => by
    have : k = 0 ∨ k = 1 ∨ k = 2 ∨ k = 3 ∨ k = 4 := by omega
    rcases this with rfl | rfl | rfl | rfl | rfl <;> simp [hset, w5F]
  have T5 : TpM (hset (hset (hset (hset (hset g (m + 7) 0 (.int w1)) (m + 7) 1 (.int w2)) (m + 7) 2 (.int w3)) (m + 7) 3 (.int w4)) (m + 7) 4 (.int w5)) m b n e := by
    obtain ⟨t1, t2, t3, t4, t5, t6, t7⟩ := Tp
    have k5 : ∀ a j, a ≠ m + 7 → (hset (hset (hset (hset (hset g (m + 7) 0 (.int w1)) (m + 7) 1 (.int w2)) (m + 7) 2 (.int w3)) (m + 7) 3 (.int w4)) (m + 7) 4 (.int w5)).2.1 a j = g.2.1 a j := fun a j q => by rw [hs_ne (by omega), hs_ne (by omega), hs_ne (by omega), hs_ne (by omega), hs_ne (by omega)]
    exact ⟨t1, t2, by rw [k5 _ _ (by omega)]; exact t3, by rw [k5 _ _ (by omega)]; exact t4, by rw [k5 _ _ (by omega)]; exact t5, t6, fun j hj => ⟨(t7 j hj).1, by rw [k5 _ _ (by omega)]; exact (t7 j hj).2⟩⟩
  generalize hset (hset (hset (hset (hset g (m + 7) 0 (.int w1)) (m + 7) 1 (.int w2)) (m + 7) 2 (.int w3)) (m + 7) 3 (.int w4)) (m + 7) 4 (.int w5) = g5 at *
  refine e_Mo_feed_57 hl _ _ m ?_
  refine for_up (Q := fun k => ∀ g' : Hp, Fs (mQ m) g g' → TpM g' m (bUp b n w1 w2 w3 w4 w5 k) n e → (∀ i, i < 5 → g'.2.1 (m + 7) i = .int (w5F w1 w2 w3 w4 w5 i)) → Ev G m_Mo_feed 60 [.ref m, un, un, un, un, un, .int (nI k)] [] g' 0 0 (MQt G h m A T ln im pa r (bFeed b n w1 w2 w3 w4 w5) (n + 20) fl (0, nI (n + 20)))) (n := 20) ?_ (fun k hk ih => ?_) 0 (Nat.zero_le _) g5 F5 ?_ fv
  · intro g' F Tg _
    rw [bUp_20] at Tg
    refine e_Mo_feed_60 hl _ _ m _ ⟨fun _ => ⟨_, Tg.f9, ⟨hm, Tg.kd⟩, ?_⟩, fun c => absurd (by decide) c⟩
    rw [show nI n + 20 = nI (n + 20) from nI_add n 20]
    refine e_Mo_feed_117 hl _ _ m ⟨nI (n + 20), ⟨Tg.kd, hs_eq⟩, ?_⟩
    have F' : Fs (mQ m) g (hset g' m 9 (.int (nI (n + 20)))) := F.set (Or.inl ⟨rfl, rfl⟩)
    obtain ⟨t1, t2, t3, t4, t5, t6, t7⟩ := Tg
    exact ⟨rfl, by rw [F'.2.2 m 0 (by unfold mQ; omega)]; exact e0, X0.fed (e := e) ⟨t1, t2, by rw [hs_ne (by omega)]; exact t3, hs_eq, by rw [hs_ne (by omega)]; exact t5, ⟨by omega, t6.2⟩, fun i hi => ⟨(t7 i hi).1, by rw [hs_ne (by omega)]; exact (t7 i hi).2⟩⟩ F', F0.tr (mQ_Z F')⟩
  · intro g' F Tg fv'
    have rm : nI k - nI k / 4 * 4 = nI (k % 4) := pk_rem (by omega) (by decide) (by decide)
    have dv : nI k / 4 = nI (k / 4) := pk_div (d := 4) (by omega) (by decide) (by decide)
    have sh : (24 : Int32) - 8 * nI (k % 4) = nI (24 - 8 * (k % 4)) := by
      rw [show (8 : Int32) = nI 8 from rfl, pk_mul, show (24 : Int32) = nI 24 from rfl, pk_sub (by omega)]
    have bv := byF_m (w5F w1 w2 w3 w4 w5 (k / 4)) (i := k % 4) (by omega)
    have r15' : g'.2.1 m 15 = .ref (m + 7) := by rw [F.2.2 m 15 (by unfold mQ; omega)]; exact r15
    have s7' : g'.1 (m + 7) = (101, 5) := by rw [F.1]; exact s7
    refine e_Mo_feed_60 hl _ _ m _ ⟨fun c => absurd c (nI_ge (b := 20) hk (by decide)), fun _ => ⟨_, Tg.r8, _, Tg.f9, _, ⟨Tg.kd, r15'⟩, by decide, w5F w1 w2 w3 w4 w5 (k / 4), by rw [dv]; exact aI_of s7' (by omega) (by decide) (fv' _ (by omega)), by decide, ?_, ?_, ?_⟩⟩
    · rw [rm, sh, bv]
      show Value.int (sx (byF (w5F w1 w2 w3 w4 w5 (k / 4)) (k % 4))).toInt8.toInt32 = _
      rw [(sx_8 _ byF_lt).2]
    · rw [nI_add]; exact aW_of (by omega) Tg.2.1 (by omega) (by decide)
    · rw [rm, sh, bv, nI_add, nI_clamp (by omega)]
      refine e_Mo_feed_100 hl _ _ m _ ?_
      rw [nI_1]
      obtain ⟨t1, t2, t3, t4, t5, t6, t7⟩ := Tg
      refine ih _ (F.set (Or.inr (Or.inl rfl))) ⟨t1, t2, by rw [hs_ne (by omega)]; exact t3, by rw [hs_ne (by omega)]; exact t4, by rw [hs_ne (by omega)]; exact t5, t6, fun j hj => ?_⟩ (fun i hi => by rw [hs_ne (by omega)]; exact fv' i hi)
      by_cases z : j = n + k
      · subst z
        have e1 : bUp b n w1 w2 w3 w4 w5 (k + 1) (n + k) = byF (w5F w1 w2 w3 w4 w5 (k / 4)) (k % 4) := by unfold bUp; rw [if_pos (by omega), show n + k - n = k by omega]
        rw [e1, hs_eq]; exact ⟨byF_lt, rfl⟩
      · have e1 : bUp b n w1 w2 w3 w4 w5 (k + 1) j = bUp b n w1 w2 w3 w4 w5 k j := by
          unfold bUp
          by_cases q : n ≤ j ∧ j < n + k
          · rw [if_pos q, if_pos (by omega)]
          · rw [if_neg q, if_neg (by omega)]
        rw [e1, hs_ne (by omega)]; exact t7 j hj
  · have e1 : bUp b n w1 w2 w3 w4 w5 0 = b := by funext j; unfold bUp; rw [if_neg (by omega)]
    rw [e1]; exact T5
end FEED
