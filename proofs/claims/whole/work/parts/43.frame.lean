/-! ===== frames; what the class changes in a valley ===== -/
def Fs (P : Nat → Nat → Prop) (h h' : Hp) : Prop := h'.1 = h.1 ∧ h.2.2 ≤ h'.2.2 ∧ ∀ a j, ¬ P a j → h'.2.1 a j = h.2.1 a j
theorem Fs.rf {P : Nat → Nat → Prop} {h : Hp} : Fs P h h := ⟨rfl, Nat.le_refl _, fun _ _ _ => rfl⟩
theorem Fs.tr {P : Nat → Nat → Prop} {h h1 h2 : Hp} (x : Fs P h h1) (y : Fs P h1 h2) : Fs P h h2 := ⟨y.1.trans x.1, Nat.le_trans x.2.1 y.2.1, fun a j n => (y.2.2 a j n).trans (x.2.2 a j n)⟩
theorem Fs.set {P : Nat → Nat → Prop} {h h1 : Hp} {a k : Nat} {v : Value} (x : Fs P h h1) (p : P a k) : Fs P h (hset h1 a k v) := ⟨x.1, x.2.1, fun b j n => by
  rw [hs_ne (fun z => n (by rw [z.1, z.2]; exact p))]; exact x.2.2 b j n⟩
theorem Fs.mono {P Q : Nat → Nat → Prop} {h h' : Hp} (x : Fs P h h') (pq : ∀ a j, P a j → Q a j) : Fs Q h h' := ⟨x.1, x.2.1, fun a j n => x.2.2 a j (fun z => n (pq a j z))⟩
theorem Fs.nx {P : Nat → Nat → Prop} {h h1 : Hp} {n : Nat} (x : Fs P h h1) (hn : h1.2.2 ≤ n) : Fs P h (h1.1, h1.2.1, n) := ⟨x.1, Nat.le_trans x.2.1 hn, x.2.2⟩
def inV (v : Nat) : Nat → Nat → Prop := fun a _ => v ≤ a ∧ a ≤ v + 10
def vpost (v la : Nat) (h : Hp) (A : Vs) : Res → Hp → Prop := fun o h' => o = .inl none ∧ VlyAt h' v A la ∧ Fs (inV v) h h'
def vpostI (v la : Nat) (h : Hp) (A : Vs) (x : Int32) : Res → Hp → Prop := fun o h' => o = .inl (some (.int x)) ∧ VlyAt h' v A la ∧ Fs (inV v) h h'
section KEEP
variable {h h' : Hp} {v : Nat} {A A' : Vs} {la : Nat}
theorem LogAt.keep {g : Nat} (L : LogAt h g A) (e : ∀ a, g ≤ a → a ≤ g + 1 → h'.1 a = h.1 a ∧ h'.2.1 a = h.2.1 a) (ag : ∀ k j, 20 ≤ k ∨ (k = 0 ∧ j = 7) → A' k j = A k j) : LogAt h' g A' := by
  have e0 := e g (Nat.le_refl _) (by omega)
  have e1 := e (g + 1) (by omega) (Nat.le_refl _)
  have a7 := ag 0 7 (Or.inr ⟨rfl, rfl⟩)
  obtain ⟨L0, L1, L2, L3, nx, L4, L5, L6⟩ := L
  refine ⟨⟨by rw [e0.1]; exact L0.1, by rw [e1.1]; exact L0.2.1, by rw [e0.2]; exact L0.2.2⟩, by rw [e0.2, a7]; exact L1, by rw [a7]; exact L2, by rw [e1.2]; exact L3, nx, L4, by rw [e0.2]; exact L5, fun ago w a1 a2 a3 => ?_⟩
  rw [a7] at a1
  rw [e1.2, ag (20 + w) ago (Or.inl (by omega))]
  exact L6 ago w a1 a2 a3
theorem VSh.keep {la' : Nat} (S : VSh h v la) (e : ∀ a, v ≤ a → a ≤ v + 10 → h'.1 a = h.1 a) (e2 : ∀ j, (1 ≤ j ∧ j ≤ 3) ∨ (7 ≤ j ∧ j ≤ 11) ∨ j = 18 → h'.2.1 v j = h.2.1 v j) (e3 : h'.2.1 v 17 = .ref la') : VSh h' v la' := by
  obtain ⟨⟨S0, S1, S2, S3, S4, S5, S6, S7, S8, S9, S10⟩, T1, T2, T3, T4, T5, T6, T7, T8, T9, T10⟩ := S
  refine ⟨⟨?_, ?_, ?_, ?_, ?_, ?_, ?_, ?_, ?_, e3, ?_⟩, ?_, ?_, ?_, ?_, ?_, ?_, ?_, ?_, ?_, ?_⟩
  · rw [e v (by omega) (by omega)]; exact S0
  · rw [e2 1 (by omega)]; exact S1
  · rw [e2 2 (by omega)]; exact S2
  · rw [e2 3 (by omega)]; exact S3
  · rw [e2 7 (by omega)]; exact S4
  · rw [e2 8 (by omega)]; exact S5
  · rw [e2 9 (by omega)]; exact S6
  · rw [e2 10 (by omega)]; exact S7
  · rw [e2 11 (by omega)]; exact S8
  · rw [e2 18 (by omega)]; exact S10
  · rw [e (v + 1) (by omega) (by omega)]; exact T1
  · rw [e (v + 2) (by omega) (by omega)]; exact T2
  · rw [e (v + 3) (by omega) (by omega)]; exact T3
  · rw [e (v + 4) (by omega) (by omega)]; exact T4
  · rw [e (v + 5) (by omega) (by omega)]; exact T5
  · rw [e (v + 6) (by omega) (by omega)]; exact T6
  · rw [e (v + 7) (by omega) (by omega)]; exact T7
  · rw [e (v + 8) (by omega) (by omega)]; exact T8
  · rw [e (v + 9) (by omega) (by omega)]; exact T9
  · rw [e (v + 10) (by omega) (by omega)]; exact T10
theorem VlyAt.keep (V : VlyAt h v A la) (e : ∀ a, v ≤ a → a ≤ v + 10 → h'.1 a = h.1 a ∧ h'.2.1 a = h.2.1 a) : VlyAt h' v A la := by
  have e0 := e v (Nat.le_refl _) (by omega)
  refine ⟨V.1.keep (fun a h1 h2 => (e a h1 h2).1) (fun j _ => by rw [e0.2]) (by rw [e0.2]; exact V.1.1.2.2.2.2.2.2.2.2.2.1), fun k j hd => ?_, by rw [e0.2]; exact V.2.2.1, V.2.2.2.keep (fun a h1 h2 => e a (by omega) (by omega)) (fun _ _ _ => rfl)⟩
  rw [(e (v + vc k) (by omega) (by have := (vplace hd).1; omega)).2]
  exact V.2.1 k j hd
theorem VlyAt.keepF {P : Nat → Nat → Prop} (V : VlyAt h v A la) (x : Fs P h h') (n : ∀ a j, v ≤ a → a ≤ v + 10 → ¬ P a j) : VlyAt h' v A la :=
  V.keep (fun a h1 h2 => ⟨by rw [x.1], funext fun j => x.2.2 a j (n a j h1 h2)⟩)
theorem flagF_congr {f : Nat} (hp : nP A' = nP A) (e : ∀ p, p < nP A → A' f p = A f p) : flagF A' f = flagF A f := by
  unfold flagF
  rw [hp]
  exact lp_congr (fun t ht b => by rw [e t ht]) 0
theorem VlyAt.relog (V : VlyAt h v A la) (e1 : h'.1 = h.1) (e : ∀ a, a < v + 9 → h'.2.1 a = h.2.1 a) (L : LogAt h' (v + 9) A') (ag : ∀ k j, ¬ (20 ≤ k ∨ (k = 0 ∧ j = 7)) → A' k j = A k j) : VlyAt h' v A' la := by
  have hP : nP A' = nP A := by unfold nP; rw [ag 0 0 (by omega)]
  have e0 := e v (by omega)
  refine ⟨V.1.keep (fun a h1 h2 => by rw [e1]) (fun j _ => by rw [e0]) (by rw [e0]; exact V.1.1.2.2.2.2.2.2.2.2.2.1), fun k j hd => ?_, ?_, L⟩
  · rw [e (v + vc k) (by have := (vplace hd).1; omega), ag k j (by rcases hd with ⟨q, q2⟩ | ⟨q0, q, -⟩ | ⟨q0, q, -⟩ <;> omega)]
    exact V.2.1 k j hd
  · rw [e0, flagF_congr hP (fun p _ => ag 4 p (by omega)), flagF_congr hP (fun p _ => ag 5 p (by omega))]
    exact V.2.2.1
theorem VlyAt.heads (V : VlyAt h v A la) (e1 : h'.1 = h.1) (e2 : ∀ a j, ¬ (a = v ∧ (j = 0 ∨ j = 4 ∨ j = 5)) → h'.2.1 a j = h.2.1 a j) (e3 : h'.2.1 v 0 = .int (A' 0 0)) (e4 : h'.2.1 v 4 = .int (flagF A' 4)) (e5 : h'.2.1 v 5 = .int (flagF A' 5))
    (ag : ∀ k j, ¬ (k = 0 ∧ j = 0) → k ≠ 4 → k ≠ 5 → A' k j = A k j) : VlyAt h' v A' la := by
  refine ⟨V.1.keep (fun a h1 h2 => by rw [e1]) (fun j hj => e2 v j (by omega)) (by rw [e2 v 17 (by omega)]; exact V.1.1.2.2.2.2.2.2.2.2.2.1), fun k j hd => ?_, ⟨e4, e5⟩, V.2.2.2.keep (fun a h1 h2 => ⟨by rw [e1], funext fun j => e2 a j (by omega)⟩) (fun k j hk => ag k j (by omega) (by omega) (by omega))⟩
  by_cases h0 : k = 0 ∧ j = 0
  · obtain ⟨rfl, rfl⟩ := h0
    exact e3
  · have hp := vplace hd
    rw [e2 (v + vc k) (vj k j) (fun z => by
      have hz : vc k = 0 := by omega
      have := hp.2 hz
      rcases z.2 with q | q | q
      · exact h0 (vinj (k := 0) (j := 0) (Or.inl ⟨rfl, by decide⟩) hd hz q)
      · omega
      · omega), ag k j h0 (by rcases hd with ⟨q, -⟩ | ⟨-, q, -⟩ | ⟨q, -, -⟩ <;> omega) (by rcases hd with ⟨q, -⟩ | ⟨-, q, -⟩ | ⟨q, -, -⟩ <;> omega)]
    exact V.2.1 k j hd
end KEEP
theorem bt_inv {x : Int32} {i : Nat} (hi : i < 32) : bt (x ^^^ -1) i = !bt x i := by rw [b_xor, b_m1 i hi]; cases bt x i <;> rfl
theorem flagF_bt {A : Vs} {f i : Nat} (hn : nP A ≤ 32) (hi : i < 32) : bt (flagF A f) i = decide (i < nP A ∧ A f i = 1) := lp_bits (c := fun p => A f p = 1) hn hi
theorem flagF_up1 {A : Vs} {f p : Nat} (B : Bd A) (hf : f ≠ 0) (hp : p < nP A) : flagF (up A f p 1) f = flagF A f ||| sh1 p := by
  have h7 := B.2.1
  have hP : nP (up A f p 1) = nP A := by unfold nP; rw [up_ne (fun z => hf z.1.symm)]
  refine b_ext (fun i hi => ?_)
  rw [flagF_bt (by omega) hi, b_or, flagF_bt (by omega) hi, b_sh1 (by omega) hi, hP]
  by_cases he : i = p
  · subst he; rw [up_same]; simp [hp]
  · rw [up_ne (fun z => he z.2)]; simp [he]
theorem flagF_up0 {A : Vs} {f p : Nat} (B : Bd A) (hf : f ≠ 0) (hp : p < nP A) : flagF (up A f p 0) f = flagF A f &&& (sh1 p ^^^ -1) := by
  have h7 := B.2.1
  have hP : nP (up A f p 0) = nP A := by unfold nP; rw [up_ne (fun z => hf z.1.symm)]
  refine b_ext (fun i hi => ?_)
  rw [flagF_bt (by omega) hi, b_and, flagF_bt (by omega) hi, bt_inv hi, b_sh1 (by omega) hi, hP]
  by_cases he : i = p
  · subst he; rw [up_same]; simp
  · rw [up_ne (fun z => he z.2)]; simp [he]
theorem flagF_other {A : Vs} {k j f : Nat} {x : Int32} (h0 : ¬ (k = 0 ∧ j = 0)) (hf : f ≠ k) : flagF (up A k j x) f = flagF A f :=
  flagF_congr (by unfold nP; rw [up_ne (fun z => h0 ⟨z.1.symm, z.2.symm⟩)]) (fun p _ => up_ne (fun z => hf z.1))
/-! the log -/
def logA (A : Vs) (a0 a1 a2 a3 a4 : Int32) : Vs := fun k j => if 20 ≤ k then (match j with | 0 => (match k - 20 with | 0 => a0 | 1 => a1 | 2 => a2 | 3 => a3 | _ => a4) | j + 1 => A k j) else if k = 0 ∧ j = 7 then imin (A 0 7 + 1) 60 else A k j
theorem logA_lo {A : Vs} {a0 a1 a2 a3 a4 : Int32} {k j : Nat} (h : ¬ (20 ≤ k ∨ (k = 0 ∧ j = 7))) : logA A a0 a1 a2 a3 a4 k j = A k j := by
  unfold logA
  rw [if_neg (by omega), if_neg (by omega)]
theorem imin_nI {a b : Nat} (ha : a < 2 ^ 31) (hb : b < 2 ^ 31) : imin (nI a) (nI b) = nI (min a b) := by
  unfold imin
  rcases Nat.lt_or_ge b a with h | h
  · rw [if_pos (nI_lt h ha), Nat.min_eq_right (by omega)]
  · rw [if_neg (nI_nlt h hb), Nat.min_eq_left h]
theorem imax_nI {a b : Nat} (ha : a < 2 ^ 31) (hb : b < 2 ^ 31) : imax (nI a) (nI b) = nI (max a b) := by
  unfold imax
  rcases Nat.lt_or_ge a b with h | h
  · rw [if_pos (nI_lt h hb), Nat.max_eq_right (by omega)]
  · rw [if_neg (nI_nlt h ha), Nat.max_eq_left h]
theorem imin_comm (x y : Int32) : imin x y = imin y x := by
  unfold imin
  split <;> split
  · rename_i a b; exact absurd b (Int32.not_lt.mpr (Int32.le_of_lt a))
  · rfl
  · rfl
  · rename_i a b; exact Int32.le_antisymm (Int32.not_lt.mp a) (Int32.not_lt.mp b)
theorem imax_comm (x y : Int32) : imax x y = imax y x := by
  unfold imax
  split <;> split
  · rename_i a b; exact absurd b (Int32.not_lt.mpr (Int32.le_of_lt a))
  · rfl
  · rfl
  · rename_i a b; exact Int32.le_antisymm (Int32.not_lt.mp b) (Int32.not_lt.mp a)
section LOG
variable {G : Gx} {h : Hp} {g : Nat} {A : Vs}
theorem LogAt.kd (L : LogAt h g A) : (h.1 g).1 = 3 := by rw [L.1.1]
theorem l_read (hl : G.1.stackTraces = false) (L : LogAt h g A) (x : Int32) {w : Nat} (hw : w < 5) : EvI G m_Lo_read [.ref g, .int x, .int (nI w)] h (if x < 0 then -2 else if A 0 7 ≤ x then -2 else A (20 + w) x.toNatClampNeg) := by
  obtain ⟨L0, L1, ⟨n, hn, hn7⟩, L3, nx, L4, L5, L6⟩ := L
  have kd : (h.1 g).1 = 3 := by rw [L0.1]
  refine en_Lo_read h _ g x _ (e_Lo_read_0 hl h _ g x _ ⟨fun c => ⟨by rw [if_pos c], rfl⟩, fun c => ⟨_, ⟨kd, L1⟩, fun d => ⟨by rw [if_neg c, if_pos d], rfl⟩, fun d => ⟨fun e => absurd e (nI_pos (by omega)), fun _ => ⟨fun _ => ?_, fun e => absurd (nI_lt hw (by decide)) e⟩⟩⟩⟩)
  obtain ⟨ago, hago, rfl⟩ := nI_of c
  have hlt : ago < n := by
    rcases Nat.lt_or_ge ago n with q | q
    · exact q
    · exact absurd (by rw [hn7]; exact nI_le q hago) d
  have e1 : ((nI nx - 1) - nI ago) + 60 = nI (nx + 59 - ago) := by
    rw [← pk_sub (by omega : ago ≤ nx + 59), ← nI_add]
    show nI nx - 1 - nI ago + 60 = nI nx + 59 - nI ago
    grind
  have e2 : ((((nI nx - 1) - nI ago) + 60) - (((nI nx - 1) - nI ago) + 60) / 60 * 60) * 5 + nI w = nI (ringAt nx ago * 5 + w) := by
    rw [e1]
    show (nI (nx + 59 - ago) - nI (nx + 59 - ago) / nI 60 * nI 60) * nI 5 + nI w = _
    rw [pk_rem (by omega) (by decide) (by decide), pk_mul, nI_add]
    rfl
  have hr : ringAt nx ago < 60 := Nat.mod_lt _ (by decide)
  refine ⟨_, ⟨kd, L0.2.2⟩, _, ⟨kd, L5⟩, by decide, A (20 + w) ago, ?_, ?_, rfl⟩
  · rw [e2]
    exact aI_of L0.2.1 (by omega) (by decide) (L6 ago w (by rw [hn7]; exact nI_lt hlt (by omega)) (by omega) hw)
  · rw [if_neg c, if_neg d, nI_clamp (by omega)]
def rowsF (A : Vs) (p : Int32) : Nat → Int32 := fun n => lp (fun t c => if A 21 t = p then c + 1 else c) n 0
def lateG (A : Vs) (p : Int32) : Nat → Nat → Int32
  | 0, _ => -1
  | d + 1, t => if A 21 t = p then A 20 t else lateG A p d (t + 1)
theorem l_readN (hl : G.1.stackTraces = false) (L : LogAt h g A) {n t : Nat} (hn : n ≤ 60) (h7 : A 0 7 = nI n) (ht : t < n) {w : Nat} (hw : w < 5) : EvI G m_Lo_read [.ref g, .int (nI t), .int (nI w)] h (A (20 + w) t) := by
  have := l_read hl L (nI t) hw
  rw [if_neg (nI_pos (by omega)), if_neg (by rw [h7]; exact nI_ge ht (by omega)), nI_clamp (by omega)] at this
  exact this
theorem l_rowsOf (hl : G.1.stackTraces = false) (L : LogAt h g A) {n : Nat} (hn : n ≤ 60) (h7 : A 0 7 = nI n) (p : Int32) : EvI G m_Lo_rowsOf [.ref g, .int p] h (rowsF A p n) := by
  have f2 : fI h 3 g 2 (A 0 7) := ⟨L.kd, L.2.1⟩
  refine en_Lo_rowsOf h _ g p (e_Lo_rowsOf_0 hl h _ g p ?_)
  refine for_up (Q := fun t => Ev G m_Lo_rowsOf 4 [.ref g, .int p, .int (lp (fun t c => if A 21 t = p then c + 1 else c) t 0), .int (nI t)] [] h 0 0 _) (n := n) ?_ (fun t ht ih => ?_) 0 (Nat.zero_le _)
  · exact e_Lo_rowsOf_4 hl h _ g p _ _ ⟨_, f2, fun _ => ⟨rfl, rfl⟩, fun c => absurd (by rw [h7]; exact Int32.le_refl _) c⟩
  · refine e_Lo_rowsOf_4 hl h _ g p _ _ ⟨_, f2, fun c => absurd c (by rw [h7]; exact nI_ge ht (by omega)), fun _ => ⟨L.kd, _, l_readN hl L hn h7 ht (w := 1) (by decide), fun c => ?_, fun c => ?_⟩⟩
    · rw [nI_1]; simp only [lp] at ih; rw [if_neg c] at ih; exact ih
    · rw [nI_1]; simp only [lp] at ih; rw [if_pos c] at ih; exact ih
theorem l_latest (hl : G.1.stackTraces = false) (L : LogAt h g A) {n : Nat} (hn : n ≤ 60) (h7 : A 0 7 = nI n) (p : Int32) : EvI G m_Lo_latestNightOf [.ref g, .int p] h (lateG A p n 0) := by
  have f2 : fI h 3 g 2 (A 0 7) := ⟨L.kd, L.2.1⟩
  refine en_Lo_latestNightOf h _ g p (e_Lo_latestNightOf_0 hl h _ g p ?_)
  suffices hh : ∀ d t, t + d = n → Ev G m_Lo_latestNightOf 2 [.ref g, .int p, .int (nI t)] [] h 0 0 (fun o h' => o = .inl (some (.int (lateG A p d t))) ∧ h' = h) from hh n 0 (Nat.zero_add _)
  intro d
  induction d with
  | zero =>
    intro t ht
    exact e_Lo_latestNightOf_2 hl h _ g p _ ⟨_, f2, fun _ => ⟨rfl, rfl⟩, fun c => absurd (by rw [h7, ← ht]; exact Int32.le_refl _) c⟩
  | succ d ih =>
    intro t ht
    have htn : t < n := by omega
    refine e_Lo_latestNightOf_2 hl h _ g p _ ⟨_, f2, fun c => absurd c (by rw [h7]; exact nI_ge htn (by omega)), fun _ => ⟨L.kd, _, l_readN hl L hn h7 htn (w := 1) (by decide), fun c => ?_, fun c => ⟨L.kd, _, l_readN hl L hn h7 htn (w := 0) (by decide), ?_, rfl⟩⟩⟩
    · rw [nI_1]; have := ih (t + 1) (by omega); rw [lateG, if_neg c]; exact this
    · rw [lateG, if_pos c]
theorem l_add (hl : G.1.stackTraces = false) (hg : G.n0 ≤ g) (L : LogAt h g A) (a0 a1 a2 a3 a4 : Int32) : EvM G m_Lo_add [.ref g, .int a0, .int a1, .int a2, .int a3, .int a4] h (fun o h' => o = .inl none ∧ LogAt h' g (logA A a0 a1 a2 a3 a4) ∧ Fs (fun a _ => a = g ∨ a = g + 1) h h') := by
  obtain ⟨L0, L1, ⟨n, hn, hn7⟩, L3, nx, L4, L5, L6⟩ := L
  have kd : (h.1 g).1 = 3 := by rw [L0.1]
  have ne : g ≠ g + 1 := by omega
  have ix : ∀ w, nI nx * 5 + nI w = nI (nx * 5 + w) := fun w => by rw [show (5 : Int32) = nI 5 from rfl, pk_mul, nI_add]
  have ix0 : nI nx * 5 = nI (nx * 5) := by rw [show (5 : Int32) = nI 5 from rfl, pk_mul]
  have cl : ∀ w, w < 5 → (nI (nx * 5 + w)).toNatClampNeg = nx * 5 + w := fun w hw => nI_clamp (by omega)
  have aw : ∀ (h' : Hp), h'.1 = h.1 → ∀ w, w < 5 → aW G h' 101 (g + 1) (nI (nx * 5 + w)) := fun h' e w hw => aW_of (by omega) (by rw [e]; exact L0.2.1) (by omega : nx * 5 + w < 300) (by decide)
  refine en_Lo_add h _ g _ _ _ _ _ (e_Lo_add_0 hl h _ g _ _ _ _ _ ⟨nI nx, ⟨kd, L5⟩, g + 1, ⟨kd, L0.2.2⟩, by rw [ix0]; exact aw h rfl 0 (by decide), ?_⟩)
  rw [ix0, nI_clamp (by omega)]
  refine e_Lo_add_16 hl _ _ g _ _ _ _ _ ⟨g + 1, ⟨kd, by rw [hset_ne ne]; exact L0.2.2⟩, by rw [nI_1]; exact aw _ rfl 1 (by decide), ?_⟩
  rw [nI_1, nI_clamp (by omega)]
  refine e_Lo_add_26 hl _ _ g _ _ _ _ ⟨g + 1, ⟨kd, by rw [hset_ne ne, hset_ne ne]; exact L0.2.2⟩, by rw [show (2 : Int32) = nI 2 from rfl, nI_add]; exact aw _ rfl 2 (by decide), ?_⟩
  rw [show nI (nx * 5) + 2 = nI (nx * 5 + 2) from nI_add _ _, nI_clamp (by omega)]
  refine e_Lo_add_36 hl _ _ g _ _ _ ⟨g + 1, ⟨kd, by rw [hset_ne ne, hset_ne ne, hset_ne ne]; exact L0.2.2⟩, by rw [show (3 : Int32) = nI 3 from rfl, nI_add]; exact aw _ rfl 3 (by decide), ?_⟩
  rw [show nI (nx * 5) + 3 = nI (nx * 5 + 3) from nI_add _ _, nI_clamp (by omega)]
  refine e_Lo_add_47 hl _ _ g _ _ ⟨g + 1, ⟨kd, by rw [hset_ne ne, hset_ne ne, hset_ne ne, hset_ne ne]; exact L0.2.2⟩, by rw [show (4 : Int32) = nI 4 from rfl, nI_add]; exact aw _ rfl 4 (by decide), ?_⟩
  rw [show nI (nx * 5) + 4 = nI (nx * 5 + 4) from nI_add _ _, nI_clamp (by omega)]
  refine e_Lo_add_58 hl _ _ g ⟨nI nx, ⟨kd, by rw [hset_ne ne, hset_ne ne, hset_ne ne, hset_ne ne, hset_ne ne]; exact L5⟩, by decide, ⟨hg, kd⟩, ?_⟩
  have em : nI nx + 1 - (nI nx + 1) / 60 * 60 = nI ((nx + 1) % 60) := by
    rw [nI_1]
    exact pk_rem (by omega) (by decide) (by decide)
  rw [em]
  refine e_Lo_add_71 hl _ _ g ⟨A 0 7, ⟨kd, by rw [hs_ne (by omega), hset_ne ne, hset_ne ne, hset_ne ne, hset_ne ne, hset_ne ne]; exact L1⟩, ⟨hg, kd⟩, rfl, ?_, ?_⟩
  · have e7 : logA A a0 a1 a2 a3 a4 0 7 = imin (A 0 7 + 1) 60 := by unfold logA; rw [if_neg (by decide), if_pos ⟨rfl, rfl⟩]
    have e7n : imin (A 0 7 + 1) 60 = nI (min (n + 1) 60) := by rw [hn7, nI_1]; exact imin_nI (by omega) (by decide)
    refine ⟨⟨L0.1, L0.2.1, ?_⟩, ?_, ⟨min (n + 1) 60, by omega, by rw [e7, e7n]⟩, fun j hj => ?_, (nx + 1) % 60, Nat.mod_lt _ (by decide), ?_, fun ago w b1 b2 b3 => ?_⟩
    · rw [hs_ne (by omega), hs_ne (by omega), hset_ne ne, hset_ne ne, hset_ne ne, hset_ne ne, hset_ne ne]; exact L0.2.2
    · rw [hs_eq, e7]
    · rw [hset_ne (by omega), hset_ne (by omega)]
      simp only [hset]
      repeat' split
      all_goals first | exact ⟨_, rfl⟩ | exact L3 j hj
    · rw [hs_ne (by omega), hs_eq]
    · rw [hset_ne (by omega), hset_ne (by omega)]
      rw [e7, e7n, nI_ltI (by omega) (by omega)] at b1
      cases ago with
      | zero =>
        have er : ringAt ((nx + 1) % 60) 0 = nx := by unfold ringAt; omega
        rw [er]
        have hw : w = 0 ∨ w = 1 ∨ w = 2 ∨ w = 3 ∨ w = 4 := by omega
        rcases hw with rfl | rfl | rfl | rfl | rfl <;> simp [hset, logA]
      | succ j =>
        have er : ringAt ((nx + 1) % 60) (j + 1) = ringAt nx j := by unfold ringAt; omega
        have ern : ringAt nx j ≠ nx := by unfold ringAt; omega
        rw [er]
        have q : ∀ w', w' < 5 → ¬ (ringAt nx j * 5 + w = nx * 5 + w') := fun w' hw' z => ern (by omega)
        rw [hs_ne (fun z => q 4 (by decide) z.2), hs_ne (fun z => q 3 (by decide) z.2), hs_ne (fun z => q 2 (by decide) z.2), hs_ne (fun z => q 1 (by decide) z.2), hs_ne (k := nx * 5) (fun z => q 0 (by decide) z.2)]
        rw [L6 j w (by rw [hn7]; exact nI_lt (by omega) (by omega)) (by omega) b3]
        unfold logA
        rw [if_pos (by omega)]
  · exact (((((((Fs.rf.set (Or.inr rfl)).set (Or.inr rfl)).set (Or.inr rfl)).set (Or.inr rfl)).set (Or.inr rfl)).set (Or.inl rfl)).set (Or.inl rfl))
end LOG
