/-! ===== reckonings: what they are, and the class's ===== -/
def hN (A : Vs) (p : Nat) : Nat := (holdF A (nI p)).toNatClampNeg
def estF (A : Vs) (p : Nat) : Int32 := if holdF A (nI p) = -1 then 0 else if A 8 (hN A p) = nI p then (if A 5 p = 1 then (if succF A p = -1 then 0 else A 6 (hN A p)) else 0) else 0
def lostF (A : Vs) (p : Nat) : Int32 := if A 5 p = 1 then worthF A (ownF A (nI p)) - estF A p else 0
def lineG (A : Vs) : Nat → Int32 → Int32 → Int32
  | 0, _, b => b
  | d + 1, o, b => if o = -1 then b else lineG A d (A 3 o.toNatClampNeg) (b ||| (1 : Int32) <<< (o &&& 31))
def lineF (A : Vs) (p : Nat) : Int32 := lineG A (nP A) (A 3 p) 0
def hangF (A : Vs) (q : Int32) : Int32 := lp (fun p b => if A 5 p = 1 ∧ succF A p = q then b ||| sh1 p else b) (nP A) 0
def hopS (T : Tt) (A : Vs) (p : Nat) (n : Nat) : Int32 := lp (fun t s => if bit1 (clothF A (nI p)) t = 1 ∧ ¬ gripF T A p < A 7 t then s + A 6 t else s) n 0
def hopeF (T : Tt) (A : Vs) (p : Nat) : Int32 := if clothF A (nI p) = 0 then 0 else if A 5 p = 1 then (if holdF A (nI p) = -1 then (100 * hopS T A p (nT A)) / bcF (clothF A (nI p)) else 0) else 0
def shareF (A : Vs) (p : Nat) : Int32 := if worthF A (allF A) = 0 then 0 else (100 * worthF A (ownF A (nI p))) / worthF A (allF A)
def shutF (T : Tt) (A : Vs) (p t : Nat) : Int32 := if A 9 t = 2 ∧ A 10 t = nI p then (if A 5 p = 1 then (if holdF A (nI p) = -1 then (if gripF T A p < A 7 t then 0 else 10000 / bcF (clothF A (nI p))) else 0) else 0) else 0
def sizeF (A : Vs) (s : Int32) : Int32 := lp (fun t n => n + bit1 s t * A 7 t) (nT A) 0
def baskS (A : Vs) (own w : Int32) (i : Nat) (b : Int32) : Int32 := if nI (i + 1) &&& (own ^^^ -1) = 0 ∧ sizeF A (nI (i + 1)) ≤ w ∧ (worthF A b < worthF A (nI (i + 1)) ∨ (worthF A (nI (i + 1)) = worthF A b ∧ bcF (nI (i + 1)) < bcF b)) then nI (i + 1) else b
def baskF (A : Vs) (own w : Int32) : Int32 := lp (baskS A own w) own.toNatClampNeg 0
def watG (A : Vs) (s : Int32) : Nat → Nat → Int32
  | 0, _ => 1
  | d + 1, p => if A 5 p = 1 then (if bit1 s p = 1 then watG A s d (p + 1) else if succF A p = -1 then 0 else if bit1 s (succF A p).toNatClampNeg = 1 then watG A s d (p + 1) else 0) else watG A s d (p + 1)
def watF (A : Vs) (s : Int32) : Int32 := watG A s (nP A) 0
def wchS (A : Vs) (i : Nat) (b : Int32) : Int32 := if nI i &&& (flagF A 5 ^^^ -1) = 0 ∧ bcF (nI i) < bcF b ∧ ¬ watF A (nI i) = 0 then nI i else b
def wchF (A : Vs) : Int32 := lp (wchS A) (flagF A 5).toNatClampNeg (flagF A 5)
def hhF (c e l : Int32) : Int32 := if c = 0 then e else if c = 1 then -2 else if c = 2 then -l else 1
def nnF (c g : Int32) : Int32 := if c = 0 then 1 else if c = 1 then 2 else if c = 2 then 0 else g - 5
def restG (e l g : Int32) (n : Nat) : Int32 := lp (fun i b => if ¬ hhF (nI i) e l < hhF (nI i ^^^ 2) e l ∧ ¬ nnF (nI i) g < nnF (nI i ^^^ 1) g then b ||| sh1 i else b) n 0
def restF (A : Vs) (p : Nat) : Int32 := restG (estF A p / 10) (lostF A p / 10) (A 2 p) 4
def oddS (T : Tt) (A : Vs) (n : Nat) (d : Int32) : Int32 := lp (fun p d => if A 5 p = 1 then (d * (100 - failF T A p)) / 100 else d) n d
def oddF (T : Tt) (A : Vs) (n : Nat) : Int32 := lp (fun _ d => oddS T A (nP A) d) n 10000
def amtF (T : Tt) (A : Vs) (w : Int32) (p : Nat) : Int32 := if w = 0 then A 1 p else if w = 1 then gripF T A p else worthF A (ownF A (nI p))
def mstS (T : Tt) (A : Vs) (w : Int32) (p : Nat) (b : Int32) : Int32 := if A 5 p = 1 ∧ (b = -1 ∨ amtF T A w b.toNatClampNeg < amtF T A w p) then nI p else b
def mstF (T : Tt) (A : Vs) (w : Int32) : Int32 := lp (mstS T A w) (nP A) (-1)
theorem worth_rg {A : Vs} (F : Wf A) (s : Int32) : ∃ k, k ≤ 990 ∧ worthF A s = nI k := by
  have h10 := F.1.2.2.2
  have key : ∀ n, n ≤ nT A → ∃ k, k ≤ 99 * n ∧ lp (fun t x => x + bit1 s t * A 6 t) n 0 = nI k := by
    intro n
    induction n with
    | zero => intro _; exact ⟨0, by omega, rfl⟩
    | succ n ih =>
      intro hn
      obtain ⟨k, hk, e⟩ := ih (by omega)
      obtain ⟨w, hw, ew⟩ := (F.2.2.2.1 n (by omega)).2.2.1
      simp only [lp]
      rw [e, ew, bit1_eq s (by omega)]
      by_cases c : bt s n = true
      · rw [if_pos c, Int32.one_mul, nI_add]; exact ⟨k + w, by omega, rfl⟩
      · rw [if_neg c, Int32.zero_mul, Int32.add_zero]; exact ⟨k, by omega, rfl⟩
  obtain ⟨k, hk, e⟩ := key (nT A) (Nat.le_refl _)
  exact ⟨k, by omega, e⟩
theorem bc_cloth {A : Vs} (B : Bd A) {p : Int32} (hc : clothF A p ≠ 0) : ∃ k, 0 < k ∧ k ≤ 13 ∧ bcF (clothF A p) = nI k := by
  obtain ⟨s, hs, e⟩ := clothF_small B p
  have h1024 := pow_le B.2.2.2
  have s0 : s ≠ 0 := fun z => hc (by rw [e, z]; rfl)
  exact ⟨pcN s, pcN_pos s (by omega) s0, pcN_le s (by omega), by rw [e, bcF_small s (by omega)]⟩
theorem max1 {k : Nat} (h0 : 0 < k) (h : k ≤ 13) : imax 1 (nI k) = nI k := by
  rw [show (1 : Int32) = nI 1 from rfl, imax_nI (by omega) (by omega), Nat.max_eq_right (by omega)]
section ES
variable {G : Gx} {h : Hp} {v : Nat} {A : Vs} {la : Nat} {T : Tt}
theorem hN_of {A : Vs} (B : Bd A) {p : Nat} (c : ¬ holdF A (nI p) = -1) : hN A p < nT A ∧ holdF A (nI p) = nI (hN A p) := by
  rcases holdF_spec A (nI p) with ⟨e, -⟩ | ⟨u, hu, e, -, -⟩
  · exact absurd e c
  · have : hN A p = u := by unfold hN; rw [e]; exact nI_clamp (by have := B.T10 hu; omega)
    rw [this]; exact ⟨hu, e⟩
theorem e_estate (hl : G.1.stackTraces = false) (V : VlyAt h v A la) (F : Wf A) {p : Nat} (hp : p < nP A) : EvI G m_Es_estate [.ref v, .int (nI p)] h (estF A p) := by
  refine en_Es_estate h _ v _ (e_Es_estate_0 hl h _ v _ ⟨V.kd, _, v_holding hl V F.1 _, fun c => ⟨by unfold estF; rw [if_pos c], rfl⟩, fun c => ?_⟩)
  obtain ⟨hu, e⟩ := hN_of F.1 c
  have hu10 := F.1.T10 hu
  refine ⟨_, V.r9, A 8 (hN A p), by rw [e]; exact V.a8 hu10, fun d => ⟨by unfold estF; rw [if_neg c, if_neg d], rfl⟩, fun d => ⟨V.kd, _, v_living hl V F.1 hp, fun f => ⟨by unfold estF; rw [if_neg c, if_pos d, if_neg (ite0 f)], rfl⟩, fun f => ⟨V.kd, _, v_successor hl V F.1 F.2.1 hp, fun g => ⟨_, V.r7, A 6 (hN A p), by rw [e]; exact V.a6 hu10, by unfold estF; rw [if_neg c, if_pos d, if_pos (ite1 f), if_neg g], rfl⟩, fun g => ⟨by unfold estF; rw [if_neg c, if_pos d, if_pos (ite1 f), if_pos g], rfl⟩⟩⟩⟩
theorem e_lost (hl : G.1.stackTraces = false) (V : VlyAt h v A la) (F : Wf A) {p : Nat} (hp : p < nP A) : EvI G m_Es_lost [.ref v, .int (nI p)] h (lostF A p) :=
  en_Es_lost h _ v _ (e_Es_lost_0 hl h _ v _ ⟨V.kd, _, v_living hl V F.1 hp, fun c => ⟨V.kd, _, v_ownedBy hl V F.1 _, V.kd, _, v_worthOf hl V F.1 _, _, e_estate hl V F hp, by unfold lostF; rw [if_pos (ite1 c)], rfl⟩, fun c => ⟨by unfold lostF; rw [if_neg (ite0 c)], rfl⟩⟩)
theorem e_line (hl : G.1.stackTraces = false) (V : VlyAt h v A la) (F : Wf A) {p : Nat} (hp : p < nP A) : EvI G m_Es_line [.ref v, .int (nI p)] h (lineF A p) := by
  have B := F.1
  refine en_Es_line h _ v _ (e_Es_line_0 hl h _ v _ ⟨_, V.r3, _, V.a3 (B.P7 hp), ?_⟩)
  suffices hh : ∀ d k o b, k + d = nP A → (o = -1 ∨ ∃ q, q < nP A ∧ o = nI q) → Ev G m_Es_line 12 [.ref v, un, .int b, .int o, .int (nI k)] [] h 0 0 (fun o' h' => o' = .inl (some (.int (lineG A d o b))) ∧ h' = h) from hh (nP A) 0 (A 3 p) 0 (Nat.zero_add _) (F.2.1 p hp)
  intro d
  induction d with
  | zero =>
    intro k o b hk ho
    exact e_Es_line_12 hl h _ v _ _ _ ⟨_, V.f0, fun _ => ⟨rfl, rfl⟩, fun c => absurd (by rw [B.1, ← hk]; exact Int32.le_refl _) c⟩
  | succ d ih =>
    intro k o b hk ho
    refine e_Es_line_12 hl h _ v _ _ _ ⟨_, V.f0, fun c => absurd c (B.in_P (by omega)), fun _ => ⟨fun c => ⟨by rw [lineG, if_pos c], rfl⟩, fun c => ?_⟩⟩
    rcases ho with ho | ⟨q, hq, ho⟩
    · exact absurd ho c
    · refine ⟨_, V.r3, A 3 q, by rw [ho]; exact V.a3 (B.P7 hq), ?_⟩
      rw [nI_1, lineG, if_neg c, show o.toNatClampNeg = q by rw [ho]; exact nI_clamp (by have := B.P7 hq; omega)]
      exact ih (k + 1) (A 3 q) _ (by omega) (F.2.1 q hq)
theorem e_hangers (hl : G.1.stackTraces = false) (V : VlyAt h v A la) (F : Wf A) (q : Int32) : EvI G m_Es_hangers [.ref v, .int q] h (hangF A q) := by
  have B := F.1
  refine en_Es_hangers h _ v q (e_Es_hangers_0 hl h _ v q ?_)
  refine for_up (Q := fun t => Ev G m_Es_hangers 4 [.ref v, .int q, .int (lp (fun p b => if A 5 p = 1 ∧ succF A p = q then b ||| sh1 p else b) t 0), .int (nI t)] [] h 0 0 _) (n := nP A) ?_ (fun t ht ih => ?_) 0 (Nat.zero_le _)
  · exact e_Es_hangers_4 hl h _ v q _ _ ⟨_, V.f0, fun _ => ⟨rfl, rfl⟩, fun c => absurd B.end_P c⟩
  · simp only [lp] at ih
    refine e_Es_hangers_4 hl h _ v q _ _ ⟨_, V.f0, fun c => absurd c (B.in_P ht), fun _ => ⟨V.kd, _, v_living hl V B ht, fun c => ?_, fun c => ⟨V.kd, _, v_successor hl V B F.2.1 ht, fun d => ?_, fun d => ?_⟩⟩⟩
    · rw [nI_1]; rw [if_neg (fun z => ite0 c z.1)] at ih; exact ih
    · rw [nI_1]; rw [if_neg (fun z => d z.2)] at ih; exact ih
    · rw [nI_1]; rw [if_pos ⟨ite1 c, d⟩] at ih; exact ih
theorem e_hoped (hl : G.1.stackTraces = false) (V : VlyAt h v A la) (F : Wf A) (L : LawOk G h la T) {p : Nat} (hp : p < nP A) : EvI G m_Es_hoped [.ref v, .int (nI p)] h (hopeF T A p) := by
  have B := F.1
  refine en_Es_hoped h _ v _ (e_Es_hoped_0 hl h _ v _ ⟨V.kd, _, v_clothOf hl V B _, fun c => ⟨by unfold hopeF; rw [if_pos c], rfl⟩, fun c => ⟨V.kd, _, v_living hl V B hp, fun d => ⟨by unfold hopeF; rw [if_neg c, if_neg (ite0 d)], rfl⟩, fun d => ⟨V.kd, _, v_holding hl V B _, fun e => ⟨V.kd, _, v_grips hl V F L hp, ?_⟩, fun e => ⟨by unfold hopeF; rw [if_neg c, if_pos (ite1 d), if_neg e], rfl⟩⟩⟩⟩)
  obtain ⟨k, k0, k13, ek⟩ := bc_cloth B c
  refine for_up (Q := fun t => Ev G m_Es_hoped 41 [.ref v, un, .int (clothF A (nI p)), .int (gripF T A p), .int (hopS T A p t), .int (nI t)] [] h 0 0 _) (n := nT A) ?_ (fun t ht ih => ?_) 0 (Nat.zero_le _)
  · refine e_Es_hoped_41 hl h _ v _ _ _ _ ⟨_, V.f6, fun _ => ⟨_, j_bitCount hl _, by rw [ek, max1 k0 k13]; exact nI_ne0 k0 (by omega), ?_, rfl⟩, fun c => absurd B.end_T c⟩
    unfold hopeF
    rw [if_neg c, if_pos (ite1 d), if_pos e, ek, max1 k0 k13]
  · have ht10 := B.T10 ht
    unfold hopS at ih ⊢
    simp only [lp] at ih
    refine e_Es_hoped_41 hl h _ v _ _ _ _ ⟨_, V.f6, fun c => absurd c (B.in_T ht), fun _ => ⟨fun f => ?_, fun f => ⟨_, V.r8, _, V.a7 ht10, fun g => ?_, fun g => ⟨_, V.r7, _, V.a6 ht10, ?_⟩⟩⟩⟩
    · rw [nI_1]; rw [if_neg (fun z => f z.1)] at ih; exact ih
    · rw [nI_1]; rw [if_neg (fun z => z.2 g)] at ih; exact ih
    · rw [nI_1]; rw [if_pos ⟨f, g⟩] at ih; exact ih
theorem e_share (hl : G.1.stackTraces = false) (V : VlyAt h v A la) (F : Wf A) (p : Nat) : EvI G m_Es_share [.ref v, .int (nI p)] h (shareF A p) := by
  obtain ⟨k, hk, e⟩ := worth_rg F (allF A)
  refine en_Es_share h _ v _ (e_Es_share_0 hl h _ v _ ⟨V.kd, _, v_allThings hl V, V.kd, _, v_worthOf hl V F.1 _, fun c => ⟨V.kd, _, v_ownedBy hl V F.1 _, V.kd, _, v_worthOf hl V F.1 _, ?_, ?_, rfl⟩, fun c => ⟨?_, rfl⟩⟩)
  · intro z; rw [z] at c; exact absurd c (by decide)
  · unfold shareF; rw [if_neg (fun z => by rw [z] at c; exact absurd c (by decide))]
  · unfold shareF; rw [if_pos]
    rw [e] at c ⊢
    have : k = 0 := by
      rcases Nat.eq_zero_or_pos k with q | q
      · exact q
      · exact absurd (by rw [show (0 : Int32) = nI 0 from rfl]; exact nI_lt q (by omega)) c
    rw [this]; rfl
theorem cloth_bit {A : Vs} (B : Bd A) {p : Int32} {t : Nat} (ht : t < nT A) : bit1 (clothF A p) t = if A 9 t = 2 ∧ A 10 t = p then 1 else 0 := by
  have h10 := B.2.2.2
  rw [bit1_eq _ (by omega), clothF_bt (by omega) (by omega)]
  by_cases c : A 9 t = 2 ∧ A 10 t = p
  · simp [ht, c]
  · rw [if_neg c, if_neg (by simp; intro _ h1 h2; exact c ⟨h1, h2⟩)]
theorem e_shutting (hl : G.1.stackTraces = false) (V : VlyAt h v A la) (F : Wf A) (L : LawOk G h la T) {p t : Nat} (hp : p < nP A) (ht : t < nT A) : EvI G m_Es_shutting [.ref v, .int (nI p), .int (nI t)] h (shutF T A p t) := by
  have B := F.1
  have cb := cloth_bit (p := nI p) B ht
  refine en_Es_shutting h _ v _ _ (e_Es_shutting_0 hl h _ v _ _ ⟨V.kd, _, v_clothOf hl V B _, fun c => ⟨?_, rfl⟩, fun c => ?_⟩)
  · have c' : bit1 (clothF A (nI p)) t = 0 := c
    rw [cb] at c'
    unfold shutF; rw [if_neg (ite0 c')]
  · have c' : ¬ bit1 (clothF A (nI p)) t = 0 := c
    rw [cb] at c'
    have c2 := ite1 c'
    have cne : clothF A (nI p) ≠ 0 := fun z => by
      rw [if_pos c2, z] at cb
      have hz := bit1_eq 0 (q := t) (by have := B.T10 ht; omega)
      rw [b_0] at hz
      rw [hz] at cb
      exact absurd cb (by decide)
    obtain ⟨k, k0, k13, ek⟩ := bc_cloth B cne
    refine ⟨V.kd, _, v_living hl V B hp, fun d => ⟨by unfold shutF; rw [if_pos c2, if_neg (ite0 d)], rfl⟩, fun d => ⟨V.kd, _, v_holding hl V B _, fun e => ⟨by unfold shutF; rw [if_pos c2, if_pos (ite1 d), if_neg e], rfl⟩, fun e => ⟨V.kd, _, v_fits hl V F L hp ht, fun f => ⟨_, j_bitCount hl _, by rw [ek, max1 k0 k13]; exact nI_ne0 k0 (by omega), ?_, rfl⟩, fun f => ⟨?_, rfl⟩⟩⟩⟩
    · unfold shutF
      rw [if_pos c2, if_pos (ite1 d), if_pos e, if_neg (fun z => by rw [if_pos z] at f; exact absurd rfl f), ek, max1 k0 k13]
    · unfold shutF
      rw [if_pos c2, if_pos (ite1 d), if_pos e, if_pos]
      by_cases z : gripF T A p < A 7 t
      · exact z
      · rw [if_neg z] at f; exact absurd f (by decide)
theorem e_sizeOf (hl : G.1.stackTraces = false) (V : VlyAt h v A la) (B : Bd A) (s : Int32) : EvI G m_Es_sizeOf [.ref v, .int s] h (sizeF A s) := by
  refine en_Es_sizeOf h _ v s (e_Es_sizeOf_0 hl h _ v s ?_)
  refine for_up (Q := fun t => Ev G m_Es_sizeOf 4 [.ref v, .int s, .int (lp (fun t n => n + bit1 s t * A 7 t) t 0), .int (nI t)] [] h 0 0 _) (n := nT A) ?_ (fun t ht ih => ?_) 0 (Nat.zero_le _)
  · exact e_Es_sizeOf_4 hl h _ v s _ _ ⟨_, V.f6, fun _ => ⟨rfl, rfl⟩, fun c => absurd B.end_T c⟩
  · refine e_Es_sizeOf_4 hl h _ v s _ _ ⟨_, V.f6, fun c => absurd c (B.in_T ht), fun _ => ⟨_, V.r8, _, V.a7 (B.T10 ht), ?_⟩⟩
    rw [nI_1]; exact ih
theorem ownF_small {A : Vs} (B : Bd A) (p : Int32) : ∃ s, s < 1024 ∧ ownF A p = nI s := by
  have h10 := B.2.2.2
  obtain ⟨s, hs, e⟩ := small_of_bits (x := ownF A p) (n := nT A) (by omega) (fun i hi hz => by
    unfold ownF; rw [lp_bits (c := fun t => A 8 t = p) (by omega) hi]; simp; omega)
  exact ⟨s, by have := pow_le h10; omega, e⟩
theorem worth_0 {A : Vs} : worthF A 0 = 0 := by
  unfold worthF
  generalize nT A = n
  induction n with
  | zero => rfl
  | succ n ih => simp only [lp]; rw [ih]; unfold bit1; simp
theorem e_basket (hl : G.1.stackTraces = false) (V : VlyAt h v A la) (F : Wf A) (p w : Int32) : EvI G m_Es_basket [.ref v, .int p, .int w] h (baskF A (ownF A p) w) := by
  have B := F.1
  obtain ⟨s, hs, es⟩ := ownF_small B p
  have hcl : (ownF A p).toNatClampNeg = s := by rw [es]; exact nI_clamp (by omega)
  refine en_Es_basket h _ v _ _ (e_Es_basket_0 hl h _ v _ _ ⟨V.kd, _, v_ownedBy hl V B _, ?_⟩)
  suffices hh : ∀ t, t ≤ s → Ev G m_Es_basket 15 [.ref v, un, .int w, .int (ownF A p), .int (lp (baskS A (ownF A p) w) t 0), .int (worthF A (lp (baskS A (ownF A p) w) t 0)), .int (nI (t + 1)), un] [] h 0 0 (fun o h' => o = .inl (some (.int (baskF A (ownF A p) w))) ∧ h' = h) by
    have := hh 0 (Nat.zero_le _)
    rw [show lp (baskS A (ownF A p) w) 0 0 = 0 from rfl, worth_0] at this
    exact this
  refine for_up ?_ (fun t ht ih => ?_)
  · refine e_Es_basket_15 hl h _ v _ _ _ _ _ ⟨fun _ => ⟨by unfold baskF; rw [hcl], rfl⟩, fun c => absurd (by rw [es]; exact nI_lt (by omega) (by omega)) c⟩
  · simp only [lp] at ih
    generalize lp (baskS A (ownF A p) w) t 0 = b at *
    have stay : baskS A (ownF A p) w t b = b → Ev G m_Es_basket 15 [.ref v, un, .int w, .int (ownF A p), .int b, .int (worthF A b), .int (nI (t + 1) + 1), un] [] h 0 0 (fun o h' => o = .inl (some (.int (baskF A (ownF A p) w))) ∧ h' = h) := fun e => by rw [e] at ih; rw [nI_1]; exact ih
    have take : baskS A (ownF A p) w t b = nI (t + 1) → Ev G m_Es_basket 15 [.ref v, un, .int w, .int (ownF A p), .int (nI (t + 1)), .int (worthF A (nI (t + 1))), .int (nI (t + 1) + 1), un] [] h 0 0 (fun o h' => o = .inl (some (.int (baskF A (ownF A p) w))) ∧ h' = h) := fun e => by rw [e] at ih; rw [nI_1]; exact ih
    refine e_Es_basket_15 hl h _ v _ _ _ _ _ ⟨fun c => absurd c (by rw [es]; exact nI_nlt (by omega) (by omega)), fun _ => ⟨fun c => stay ?_, fun c => ⟨_, e_sizeOf hl V B _, fun d => ⟨V.kd, _, v_worthOf hl V B _, fun e => take ?_, fun e => ⟨fun f => stay ?_, fun f => ⟨_, j_bitCount hl _, _, j_bitCount hl _, fun g => stay ?_, fun g => take ?_⟩⟩⟩, fun d => stay ?_⟩⟩⟩
    · unfold baskS; rw [if_neg (fun z => c z.1)]
    · unfold baskS; rw [if_pos ⟨c, d, Or.inl e⟩]
    · unfold baskS; rw [if_neg (fun z => by rcases z.2.2 with q | q; exact e q; exact f q.1)]
    · unfold baskS; rw [if_neg (fun z => by rcases z.2.2 with q | q; exact e q; exact Int32.not_lt.mpr g q.2)]
    · unfold baskS; rw [if_pos ⟨c, d, Or.inr ⟨f, Int32.not_le.mp g⟩⟩]
    · unfold baskS; rw [if_neg (fun z => d z.2.1)]
end ES
