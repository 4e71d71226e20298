/-! ===== reckonings of the reference ===== -/
def mU (m : Nat) : Nat → Nat → Prop := fun a j => (a = m ∧ j = 0) ∨ mW m a j ∨ (m + 9 ≤ a ∧ a ≤ m + 15)
theorem mW_U {m a j : Nat} (h : mW m a j) : mU m a j := Or.inr (Or.inl h)
/-- the reference's answer: a code and a value -/
def mans (m : Nat) (h : Hp) (A : Vs) (q : Int32 × Int32) : Res → Hp → Prop := fun o h' => o = .inl (some (.int q.2)) ∧ WldAt h' m A ∧ h'.2.1 m 0 = .int q.1 ∧ Fs (mU m) h h'
theorem bt_sh {o : Nat} (ho : o < 32) {i : Nat} (hi : i < 32) : bt ((1 : Int32) <<< (nI o &&& 31)) i = decide (i = o) := b_sh1 ho hi
theorem lineG_bt {A : Vs} (R : Hr A) (h7 : nP A ≤ 7) {i : Nat} (hi : i < 32) : ∀ d o b, (o = -1 ∨ ∃ q, q < nP A ∧ o = nI q) → (bt (lineG A d o b) i = true ↔ bt b i = true ∨ ∃ k, k < d ∧ chn (nxt A) (cod A o) k = i ∧ i < nP A)
  | 0, o, b, _ => ⟨fun z => Or.inl z, fun z => by rcases z with z | ⟨k, hk, -⟩; exact z; omega⟩
  | d + 1, o, b, ho => by
    unfold lineG
    by_cases c : o = -1
    · rw [if_pos c]
      refine ⟨fun z => Or.inl z, fun z => ?_⟩
      rcases z with z | ⟨k, hk, e, hlt⟩
      · exact z
      · have : cod A o = nP A := by unfold cod; rw [if_pos c]
        rw [this] at e
        have hk' : chn (nxt A) (nP A) k = nP A := by
          clear e hk
          induction k with
          | zero => rfl
          | succ k ih => show nxt A (chn (nxt A) (nP A) k) = nP A; rw [ih, nxt_n]
        omega
    · rw [if_neg c]
      rcases ho with ho | ⟨q, hq, ho⟩
      · exact absurd ho c
      · have hcl : o.toNatClampNeg = q := by rw [ho]; exact nI_clamp (by omega)
        have hcod : cod A o = q := by unfold cod; rw [if_neg c, hcl]
        have hsh : ∀ i, chn (nxt A) q (i + 1) = chn (nxt A) (nxt A q) i := fun i => by
          induction i with
          | zero => rfl
          | succ i ih => show nxt A (chn (nxt A) q (i + 1)) = nxt A (chn (nxt A) (nxt A q) i); rw [ih]
        rw [hcl, lineG_bt R h7 hi d (A 3 q) _ (R q hq), hcod, nxt_cod hq, b_or, ho, bt_sh (by omega) hi]
        constructor
        · rintro (z | ⟨k, hk, e, hlt⟩)
          · simp only [Bool.or_eq_true, decide_eq_true_eq] at z
            rcases z with z | z
            · exact Or.inl z
            · exact Or.inr ⟨0, by omega, z.symm, by omega⟩
          · exact Or.inr ⟨k + 1, by omega, by rw [hsh]; exact e, hlt⟩
        · rintro (z | ⟨k, hk, e, hlt⟩)
          · left; simp [z]
          · cases k with
            | zero => left; have : q = i := e; simp [this]
            | succ k => right; rw [hsh] at e; exact ⟨k, by omega, e, hlt⟩
theorem lineG_more {A : Vs} (R : Hr A) (h7 : nP A ≤ 7) {o b : Int32} (ho : o = -1 ∨ ∃ q, q < nP A ∧ o = nI q) {d : Nat} (hd : nP A ≤ d) : lineG A d o b = lineG A (nP A) o b := by
  have hm := chn_mem (f := nxt A) (cod_le h7 ho) (fun q _ => nxt_le R h7 q) nxt_n
  refine b_ext (fun i hi => Bool.eq_iff_iff.mpr ?_)
  rw [lineG_bt R h7 hi d o b ho, lineG_bt R h7 hi (nP A) o b ho]
  constructor
  · rintro (z | ⟨k, hk, e, hlt⟩)
    · exact Or.inl z
    · rcases hm k with q | ⟨j, hj, q⟩
      · omega
      · exact Or.inr ⟨j, hj, by rw [← q]; exact e, hlt⟩
  · rintro (z | ⟨k, hk, e, hlt⟩)
    · exact Or.inl z
    · exact Or.inr ⟨k, by omega, e, hlt⟩
section MO6
variable {G : Gx} {h h' : Hp} {m : Nat} {A : Vs} {T : Tt}
theorem WldAt.thr (W : WldAt h m A) (c : Int32) : WldAt (hset h m 0 (.int c)) m A := W.keep (fun _ _ _ => rfl) (fun j hj => hs_ne (by omega)) (fun j _ => hs_ne (by omega))
theorem MLawOk.thr (L : MLawOk G h m T) (c : Int32) : MLawOk G (hset h m 0 (.int c)) m T := L.keep (fun j _ => hs_ne (by omega))
theorem o_thr0 (hl : G.1.stackTraces = false) (c : Int32) : EvM G m_Mo_throwsIf [.ref m, .int 0, .int c] h (fun o h' => o = .inl (some (.int 0)) ∧ h' = h) :=
  en_Mo_throwsIf h _ m _ _ (e_Mo_throwsIf_0 hl h _ m _ _ ⟨fun _ => e_Mo_throwsIf_9 hl h _ _ (bret_of (Or.inl rfl) ⟨rfl, rfl⟩), fun q => absurd rfl q⟩)
theorem o_thr1 (hl : G.1.stackTraces = false) (hm : G.n0 ≤ m) (W : WldAt h m A) (c : Int32) : EvM G m_Mo_throwsIf [.ref m, .int 1, .int c] h (fun o h' => o = .inl (some (.int 1)) ∧ h' = hset h m 0 (.int c)) :=
  en_Mo_throwsIf h _ m _ _ (e_Mo_throwsIf_0 hl h _ m _ _ ⟨fun q => absurd q (by decide), fun _ => ⟨⟨hm, W.kd⟩, e_Mo_throwsIf_9 hl _ _ _ (bret_of (Or.inr rfl) ⟨rfl, rfl⟩)⟩⟩)
def noF (n x : Int32) : Int32 := if x < 0 then 1 else if n ≤ x then 1 else 0
theorem noF_in {n : Nat} {x : Int32} (hn : n < 2 ^ 31) : (noF (nI n) x = 1 ∧ ¬ ∃ k, k < n ∧ x = nI k) ∨ (noF (nI n) x = 0 ∧ ∃ k, k < n ∧ x = nI k) := by
  unfold noF
  by_cases c : x < 0
  · rw [if_pos c]; left
    exact ⟨rfl, fun ⟨k, hk, e⟩ => nI_pos (by omega) (e ▸ c)⟩
  · rw [if_neg c]
    obtain ⟨j, hj, rfl⟩ := nI_of c
    by_cases d : nI n ≤ nI j
    · rw [if_pos d]; left
      refine ⟨rfl, fun ⟨k, hk, e⟩ => ?_⟩
      have := (nI_eq hj (by omega)).mp e
      subst this
      exact nI_ge hk hn d
    · rw [if_neg d]; right
      refine ⟨rfl, j, ?_, rfl⟩
      rcases Nat.lt_or_ge j n with q | q
      · exact q
      · exact absurd (nI_le q hj) d
theorem in_no {n : Nat} (hn : n < 2 ^ 31) {x : Int32} : (¬ (if x < 0 then (0 : Int32) else if nI n - 1 < x then 0 else 1) = 0 → noF (nI n) x = 0) ∧ ((if x < 0 then (0 : Int32) else if nI n - 1 < x then 0 else 1) = 0 → noF (nI n) x = 1) := by
  unfold noF
  by_cases c : x < 0
  · rw [if_pos c, if_pos c]; exact ⟨fun q => absurd rfl q, fun _ => rfl⟩
  · rw [if_neg c, if_neg c]
    obtain ⟨j, hj, rfl⟩ := nI_of c
    have key : nI n - 1 < nI j ↔ nI n ≤ nI j := by
      cases n with
      | zero => exact ⟨fun _ => nI_pos' hj, fun _ => by
          have : nI 0 - 1 = -1 := by decide
          rw [this]
          exact Int32.lt_of_lt_of_le (by decide : (-1 : Int32) < 0) (nI_pos' hj)⟩
      | succ n => rw [nI_pred, nI_ltI (by omega) hj, nI_leI hn hj]; omega
    by_cases d : nI n ≤ nI j
    · rw [if_pos (key.mpr d), if_pos d]; exact ⟨fun q => absurd rfl q, fun _ => rfl⟩
    · rw [if_neg (fun z => d (key.mp z)), if_neg d]; exact ⟨fun _ => rfl, fun q => absurd q (by decide)⟩
theorem o_noPerson (hl : G.1.stackTraces = false) (W : WldAt h m A) (B : Bd A) (p : Int32) : EvI G m_Mo_noPerson [.ref m, .int p] h (noF (A 0 0) p) := by
  have k := in_no (n := nP A) (x := p) (by have := B.2.1; omega)
  rw [← B.1] at k
  exact en_Mo_noPerson h _ m _ (e_Mo_noPerson_0 hl h _ m _ ⟨W.kd, _, o_people hl W, _, o_in hl _ _ _, fun c => ⟨by rw [k.1 c], rfl⟩, fun c => ⟨by rw [k.2 c], rfl⟩⟩)
theorem o_noThing (hl : G.1.stackTraces = false) (W : WldAt h m A) (B : Bd A) (p : Int32) : EvI G m_Mo_noThing [.ref m, .int p] h (noF (A 0 1) p) := by
  have k := in_no (n := nT A) (x := p) (by have := B.2.2.2; omega)
  rw [← B.2.2.1] at k
  exact en_Mo_noThing h _ m _ (e_Mo_noThing_0 hl h _ m _ ⟨W.kd, _, o_things hl W, _, o_in hl _ _ _, fun c => ⟨by rw [k.1 c], rfl⟩, fun c => ⟨by rw [k.2 c], rfl⟩⟩)
theorem o_isFree (hl : G.1.stackTraces = false) (W : WldAt h m A) {t : Nat} (ht : t < 10) : EvI G m_Mo_isFree [.ref m, .int (nI t)] h (if A 9 t = 0 then (if A 8 t = -1 then 0 else 1) else 0) :=
  en_Mo_isFree h _ m _ (e_Mo_isFree_0 hl h _ m _ ⟨W.kd, _, o_ofThing hl W ht (f := 3) (by decide), fun c => ⟨by rw [if_neg c], rfl⟩, fun c => ⟨W.kd, _, o_ofThing hl W ht (f := 2) (by decide), fun d => ⟨by rw [if_pos c, if_pos d], rfl⟩, fun d => ⟨by rw [if_pos c, if_neg d], rfl⟩⟩⟩)
theorem o_estate (hl : G.1.stackTraces = false) (W : WldAt h m A) (F : Wf A) {p : Nat} (hp : p < nP A) : EvI G m_Mo_estateOf [.ref m, .int (nI p)] h (estF A p) := by
  have dead : ¬ A 5 p = 1 → estF A p = 0 := fun c => by
    unfold estF
    rw [if_neg c, ite_self, ite_self]
  refine en_Mo_estateOf h _ m _ (e_Mo_estateOf_0 hl h _ m _ ⟨W.kd, _, o_lives hl W (F.1.P7 hp), fun c => ⟨fun _ => ⟨by rw [dead (ite0 c)], rfl⟩, fun g => absurd rfl g⟩, fun c => ⟨W.kd, _, o_heldBy hl W F _, fun d => ⟨by unfold estF; rw [if_pos d], rfl⟩, fun d => ?_⟩⟩)
  obtain ⟨hu, e⟩ := hN_of F.1 d
  have hu10 := F.1.T10 hu
  refine ⟨W.kd, A 8 (hN A p), by rw [e]; exact o_ofThing hl W hu10 (f := 2) (by decide), fun f => ⟨by unfold estF; rw [if_neg d, if_neg f], rfl⟩, fun f => ⟨W.kd, _, o_succ hl W F hp, fun g => ⟨W.kd, A 6 (hN A p), by rw [e]; exact o_ofThing hl W hu10 (f := 0) (by decide), by unfold estF; rw [if_neg d, if_pos f, if_pos (ite1 c), if_neg g], rfl⟩, fun g => ⟨by unfold estF; rw [if_neg d, if_pos f, if_pos (ite1 c), if_pos g], rfl⟩⟩⟩
theorem o_lost (hl : G.1.stackTraces = false) (W : WldAt h m A) (F : Wf A) {p : Nat} (hp : p < nP A) : EvI G m_Mo_lostOf [.ref m, .int (nI p)] h (lostF A p) :=
  en_Mo_lostOf h _ m _ (e_Mo_lostOf_0 hl h _ m _ ⟨W.kd, _, o_lives hl W (F.1.P7 hp), fun c => ⟨by unfold lostF; rw [if_neg (ite0 c)], rfl⟩, fun c => ⟨W.kd, _, o_ownedBy hl W F.1 _, W.kd, _, o_worthOf hl W F.1 _, W.kd, _, o_estate hl W F hp, by unfold lostF; rw [if_pos (ite1 c)], rfl⟩⟩)
theorem o_line (hl : G.1.stackTraces = false) (W : WldAt h m A) (F : Wf A) {p : Nat} (hp : p < nP A) : EvI G m_Mo_lineOf [.ref m, .int (nI p)] h (lineF A p) := by
  have B := F.1
  unfold lineF
  rw [← lineG_more F.2.1 B.2.1 (b := 0) (F.2.1 p hp) B.2.1]
  refine en_Mo_lineOf h _ m _ (e_Mo_lineOf_0 hl h _ m _ ⟨W.kd, _, o_of hl W (B.P7 hp) (f := 2) (by decide), ?_⟩)
  suffices hh : ∀ d k o b, k + d = 7 → (o = -1 ∨ ∃ q, q < nP A ∧ o = nI q) → Ev G m_Mo_lineOf 12 [.ref m, un, .int b, .int o, .int (nI k)] [] h 0 0 (fun o' h' => o' = .inl (some (.int (lineG A d o b))) ∧ h' = h) from hh 7 0 (A 3 p) 0 rfl (F.2.1 p hp)
  intro d
  induction d with
  | zero =>
    intro k o b hk ho
    exact e_Mo_lineOf_12 hl h _ m _ _ _ ⟨fun _ => ⟨rfl, rfl⟩, fun c => absurd (by rw [show (7 : Int32) = nI 7 from rfl]; exact nI_le (by omega) (by omega)) c⟩
  | succ d ih =>
    intro k o b hk ho
    refine e_Mo_lineOf_12 hl h _ m _ _ _ ⟨fun c => absurd c (by rw [show (7 : Int32) = nI 7 from rfl]; exact nI_ge (by omega) (by omega)), fun _ => ⟨fun c => ⟨by rw [lineG, if_pos c], rfl⟩, fun c => ?_⟩⟩
    rcases ho with ho | ⟨q, hq, ho⟩
    · exact absurd ho c
    · refine ⟨W.kd, A 3 q, by rw [ho]; exact o_of hl W (B.P7 hq) (f := 2) (by decide), ?_⟩
      rw [nI_1, lineG, if_neg c, show o.toNatClampNeg = q by rw [ho]; exact nI_clamp (by have := B.P7 hq; omega)]
      exact ih (k + 1) (A 3 q) _ (by omega) (F.2.1 q hq)
theorem o_hangs (hl : G.1.stackTraces = false) (W : WldAt h m A) (F : Wf A) (q : Int32) : EvI G m_Mo_hangsOn [.ref m, .int q] h (hangF A q) := by
  have B := F.1
  refine en_Mo_hangsOn h _ m q (e_Mo_hangsOn_0 hl h _ m q ?_)
  refine for_up (Q := fun t => Ev G m_Mo_hangsOn 4 [.ref m, .int q, .int (lp (fun p b => if A 5 p = 1 ∧ succF A p = q then b ||| sh1 p else b) t 0), .int (nI t)] [] h 0 0 _) (n := nP A) ?_ (fun t ht ih => ?_) 0 (Nat.zero_le _)
  · exact e_Mo_hangsOn_4 hl h _ m q _ _ ⟨W.kd, _, o_people hl W, fun _ => ⟨rfl, rfl⟩, fun c => absurd B.end_P c⟩
  · simp only [lp] at ih
    refine e_Mo_hangsOn_4 hl h _ m q _ _ ⟨W.kd, _, o_people hl W, fun c => absurd c (B.in_P ht), fun _ => ⟨W.kd, _, o_lives hl W (B.P7 ht), fun c => ?_, fun c => ⟨W.kd, _, o_succ hl W F ht, fun d => ?_, fun d => ?_⟩⟩⟩
    · rw [nI_1, Int32.or_zero]; rw [if_neg (fun z => ite0 c z.1)] at ih; exact ih
    · rw [nI_1, Int32.or_zero]; rw [if_neg (fun z => d z.2)] at ih; exact ih
    · rw [nI_1]; rw [if_pos ⟨ite1 c, d⟩] at ih; exact ih
theorem o_hoped (hl : G.1.stackTraces = false) (W : WldAt h m A) (F : Wf A) (L : MLawOk G h m T) {p : Nat} (hp : p < nP A) : EvM G m_Mo_hopedOf [.ref m, .int (nI p)] h (mpostI m h A (hopeF T A p)) := by
  have B := F.1
  refine en_Mo_hopedOf h _ m _ (e_Mo_hopedOf_0 hl h _ m _ ⟨W.kd, _, o_onClothOf hl W B _, W.kd, _, o_lives hl W (B.P7 hp), fun c => ⟨?_, W, Fs.rf⟩, fun c => ⟨W.kd, _, o_heldBy hl W F _, fun d => ⟨?_, W, Fs.rf⟩, fun d => ⟨fun e => ?_, fun e => ⟨?_, W, Fs.rf⟩⟩⟩⟩)
  · unfold hopeF; rw [if_neg (ite0 c)]; split <;> rfl
  · unfold hopeF; rw [if_neg d]; split
    · rfl
    · split <;> rfl
  · obtain ⟨k, k0, k13, ek⟩ := bc_cloth B e
    refine for_up (Q := fun t => ∀ h1, WldAt h1 m A → Fs (mW m) h h1 → Ev G m_Mo_hopedOf 34 [.ref m, .int (nI p), .int (clothF A (nI p)), .int (hopS T A p t), .int (nI t)] [] h1 0 0 _) (n := nT A) (fun h1 W1 F1 => ?_) (fun t ht ih h1 W1 F1 => ?_) 0 (Nat.zero_le _) h W Fs.rf
    · refine e_Mo_hopedOf_34 hl h1 _ m _ _ _ _ ⟨W1.kd, _, o_things hl W1, fun _ => ⟨_, j_bitCount hl _, by rw [ek]; exact nI_ne0 k0 (by omega), ?_, W1, F1⟩, fun c => absurd B.end_T c⟩
      unfold hopeF
      rw [if_neg e, if_pos (ite1 c), if_pos d]
    · have ht10 := B.T10 ht
      unfold hopS at ih ⊢
      simp only [lp] at ih
      refine e_Mo_hopedOf_34 hl h1 _ m _ _ _ _ ⟨W1.kd, _, o_things hl W1, fun c => absurd c (B.in_T ht), fun _ => ⟨_, o_has hl _ _, fun f => ?_, fun f => ⟨W1.kd, _, o_canHold hl W1 F (L.kw F1) hp ht, fun o2 h2 z => Or.inl ?_⟩⟩⟩
      · rw [nI_1, Int32.add_zero]; rw [if_neg (fun z => by rw [has0 f (by omega)] at z; exact absurd z.1 (by decide))] at ih; exact ih h1 W1 F1
      · obtain ⟨z1, W2, F2⟩ := z
        refine ⟨_, z1, fun g => ?_, fun g => ⟨W2.kd, _, o_ofThing hl W2 ht10 (f := 0) (by decide), ?_⟩⟩
        · rw [nI_1, Int32.add_zero]
          have : gripF T A p < A 7 t := by
            by_cases y : gripF T A p < A 7 t
            · exact y
            · rw [if_neg y] at g; exact absurd g (by decide)
          rw [if_neg (fun z => z.2 this)] at ih
          exact ih h2 W2 (F1.tr F2)
        · rw [nI_1]
          have : ¬ gripF T A p < A 7 t := fun y => by rw [if_pos y] at g; exact g rfl
          rw [if_pos ⟨has1 f, this⟩] at ih
          exact ih h2 W2 (F1.tr F2)
  · unfold hopeF; rw [if_pos e]
theorem o_worthAll (hl : G.1.stackTraces = false) (W : WldAt h m A) (B : Bd A) : EvI G m_Mo_worthOfAll [.ref m] h (worthF A (allF A)) :=
  en_Mo_worthOfAll h _ m (e_Mo_worthOfAll_0 hl h _ m ⟨W.kd, _, o_things hl W, W.kd, _, o_worthOf hl W B _, rfl, rfl⟩)
theorem o_sizeOf (hl : G.1.stackTraces = false) (W : WldAt h m A) (B : Bd A) (s : Int32) : EvI G m_Mo_sizeOf [.ref m, .int s] h (sizeF A s) := by
  refine en_Mo_sizeOf h _ m s (e_Mo_sizeOf_0 hl h _ m s ?_)
  refine for_up (Q := fun t => Ev G m_Mo_sizeOf 4 [.ref m, .int s, .int (lp (fun t n => n + bit1 s t * A 7 t) t 0), .int (nI t)] [] h 0 0 _) (n := nT A) ?_ (fun t ht ih => ?_) 0 (Nat.zero_le _)
  · exact e_Mo_sizeOf_4 hl h _ m s _ _ ⟨W.kd, _, o_things hl W, fun _ => ⟨rfl, rfl⟩, fun c => absurd B.end_T c⟩
  · refine e_Mo_sizeOf_4 hl h _ m s _ _ ⟨W.kd, _, o_things hl W, fun c => absurd c (B.in_T ht), fun _ => ⟨_, o_has hl _ _, fun c => ?_, fun c => ⟨W.kd, _, o_ofThing hl W (B.T10 ht) (f := 1) (by decide), ?_⟩⟩⟩
    · rw [nI_1]; simp only [lp] at ih; rw [has0 c (by have := B.T10 ht; omega), Int32.zero_mul] at ih; exact ih
    · rw [nI_1]; simp only [lp] at ih; rw [has1 c, Int32.one_mul] at ih; exact ih
theorem sub_pos {a b : Nat} (ha : a ≤ 990) (hb : b ≤ 990) : (0 < nI a - nI b ↔ nI b < nI a) ∧ (nI a - nI b = 0 ↔ nI a = nI b) := by
  rcases Nat.lt_or_ge a b with q | q
  · have := pk_sneg (a := a) (b := b) (by omega) q
    refine ⟨⟨fun z => absurd (Int32.lt_trans z this) (by decide), fun z => absurd z (nI_nlt (by omega) (by omega))⟩, ⟨fun z => by rw [z] at this; exact absurd this (by decide), fun z => ?_⟩⟩
    have := (nI_eq (by omega) (by omega)).mp z; omega
  · rw [pk_sub q, show (0 : Int32) = nI 0 from rfl, nI_ltI (by omega) (by omega), nI_ltI (by omega) (by omega), nI_eq (by omega) (by omega), nI_eq (by omega) (by omega)]
    omega
theorem o_isBetter (hl : G.1.stackTraces = false) (W : WldAt h m A) (F : Wf A) (s b : Int32) : EvI G m_Mo_isBetter [.ref m, .int s, .int b] h (if worthF A b < worthF A s ∨ (worthF A s = worthF A b ∧ bcF s < bcF b) then 1 else 0) := by
  obtain ⟨x, hx, ex⟩ := worth_rg F s
  obtain ⟨y, hy, ey⟩ := worth_rg F b
  have k := sub_pos hx hy
  rw [← ex, ← ey] at k
  refine en_Mo_isBetter h _ m _ _ (e_Mo_isBetter_0 hl h _ m _ _ ⟨W.kd, _, o_worthOf hl W F.1 _, W.kd, _, o_worthOf hl W F.1 _, fun c => ⟨by rw [if_pos (Or.inl (k.1.mp c))], rfl⟩, fun c => ⟨fun d => ⟨?_, rfl⟩, fun d => ⟨_, j_bitCount hl _, _, j_bitCount hl _, fun e => ⟨?_, rfl⟩, fun e => ⟨?_, rfl⟩⟩⟩⟩)
  · rw [if_neg (fun z => by rcases z with z | z; exact c (k.1.mpr z); exact d (k.2.mpr z.1))]
  · rw [if_neg (fun z => by rcases z with z | z; exact c (k.1.mpr z); exact Int32.not_lt.mpr e z.2)]
  · rw [if_pos (Or.inr ⟨k.2.mp d, Int32.not_le.mp e⟩)]
end MO6
