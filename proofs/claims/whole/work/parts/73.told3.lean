/-! ===== strengths, fingers: both sides ===== -/
def wsG (b : Nat → Nat) (s : Nat) : Nat → Nat → Nat → Nat
  | 0, _, n => n
  | d + 1, i, n => wsG b s d (i + 2) (if (if s < b i then 0 else 1) = b (i + 1) then n else n + 1)
def wsN (b : Nat → Nat) (u s : Nat) : Nat := wsG b s (u / 2) 0 0
theorem wsG_le {b : Nat → Nat} {s : Nat} : ∀ d i n, wsG b s d i n ≤ n + d
  | 0, _, n => Nat.le_refl _
  | d + 1, i, n => by
    unfold wsG
    have h1 := wsG_le (b := b) (s := s) d (i + 2) n
    have h2 := wsG_le (b := b) (s := s) d (i + 2) (n + 1)
    by_cases c : (if s < b i then 0 else 1) = b (i + 1)
    · rw [if_pos c]; omega
    · rw [if_neg c]; omega
theorem wsN_le {b : Nat → Nat} {u s : Nat} (h : u ≤ 40) : wsN b u s ≤ 20 := by
  have := wsG_le (b := b) (s := s) (u / 2) 0 0
  unfold wsN; omega
def fsF (b : Nat → Nat) (u : Nat) : Int32 := lp (fun s r => if wsN b u s ≤ 1 then r ||| sh1 s else r) 13 0
def lsS (b : Nat → Nat) (u s : Nat) (q : Int32 × Nat) : Int32 × Nat := if wsN b u s < q.2 then (nI s, wsN b u s) else q
theorem lsS_p {b : Nat → Nat} {u s : Nat} {q : Int32 × Nat} (c : wsN b u s < q.2) : lsS b u s q = (nI s, wsN b u s) := by unfold lsS; rw [if_pos c]
theorem lsS_n {b : Nat → Nat} {u s : Nat} {q : Int32 × Nat} (c : ¬ wsN b u s < q.2) : lsS b u s q = q := by unfold lsS; rw [if_neg c]
def lsF (b : Nat → Nat) (u : Nat) : Int32 := (lp (lsS b u) 13 (-1, 2)).1
theorem ls_b {b : Nat → Nat} {u : Nat} : ∀ n, (lp (lsS b u) n (-1, 2)).2 ≤ 2
  | 0 => Nat.le_refl _
  | n + 1 => by
    have := ls_b (b := b) (u := u) n
    show (lsS b u n (lp (lsS b u) n (-1, 2))).2 ≤ 2
    unfold lsS
    split
    · rename_i c; exact Nat.le_trans (Nat.le_of_lt c) this
    · exact this
def cN (b : Nat → Nat) (u : Nat) : Nat → Nat → Nat
  | 0, _ => 0
  | d + 1, s => (if wsN b u s ≤ 1 then 1 else 0) + cN b u d (s + 1)
def mnF (b : Nat → Nat) (u k : Nat) : Nat := cN b u (13 - k) k
theorem cN_le {b : Nat → Nat} {u : Nat} : ∀ d s, cN b u d s ≤ d
  | 0, _ => Nat.le_refl _
  | d + 1, s => by
    have := cN_le (b := b) (u := u) d (s + 1)
    unfold cN
    split <;> omega
theorem cN_last {b : Nat → Nat} {u : Nat} : ∀ d s, cN b u (d + 1) s = cN b u d s + (if wsN b u (s + d) ≤ 1 then 1 else 0)
  | 0, s => by show (if wsN b u s ≤ 1 then 1 else 0) + 0 = 0 + (if wsN b u s ≤ 1 then 1 else 0); omega
  | d + 1, s => by
    show (if wsN b u s ≤ 1 then 1 else 0) + cN b u (d + 1) (s + 1) = (if wsN b u s ≤ 1 then 1 else 0) + cN b u d (s + 1) + _
    rw [cN_last d (s + 1), show s + 1 + d = s + (d + 1) by omega]; omega
theorem mn_0 {b : Nat → Nat} {u : Nat} : ∀ k, k ≤ 13 → mnF b u k ≤ mnF b u 0
  | 0, _ => Nat.le_refl _
  | k + 1, h => by
    have := mn_0 (b := b) (u := u) k (by omega)
    have e : mnF b u k = (if wsN b u k ≤ 1 then 1 else 0) + mnF b u (k + 1) := by
      unfold mnF; rw [show 13 - k = (13 - (k + 1)) + 1 by omega]; rfl
    omega
theorem lp_shr {c : Nat → Prop} [DecidablePred c] {k : Nat} (hk : k ≤ 13) : lp (fun t r => if c t then r ||| sh1 t else r) 13 0 >>> (nI k &&& 31) = lp (fun t r => if c (t + k) then r ||| sh1 t else r) (13 - k) (0 : Int32) := by
  refine b_ext (fun i hi => ?_)
  rw [b_sshr k (by omega) _ hi, lp_bits (c := fun t => c (t + k)) (by omega) hi]
  by_cases z : k + i < 32
  · rw [if_pos z, lp_bits (c := c) (by omega) z, Nat.add_comm k i]
    congr 1
    exact propext ⟨fun q => ⟨by omega, q.2⟩, fun q => ⟨by omega, q.2⟩⟩
  · rw [if_neg z, lp_bits (c := c) (by omega) (by omega), decide_eq_false (fun q => by omega), decide_eq_false (fun q => by omega)]
theorem cnt_c {b : Nat → Nat} {u k : Nat} : ∀ n, lp (fun t (r : Int32) => if wsN b u (t + k) ≤ 1 then r + 1 else r) n 0 = nI (cN b u n k)
  | 0 => rfl
  | n + 1 => by
    show (if wsN b u (n + k) ≤ 1 then lp (fun t (r : Int32) => if wsN b u (t + k) ≤ 1 then r + 1 else r) n 0 + 1 else lp (fun t (r : Int32) => if wsN b u (t + k) ≤ 1 then r + 1 else r) n 0) = _
    rw [cnt_c n, cN_last n k, Nat.add_comm k n]
    split
    · rw [nI_1]
    · rfl
theorem bc_fs {b : Nat → Nat} {u k : Nat} (hk : k ≤ 13) : bcF (fsF b u >>> (nI k &&& 31)) = nI (mnF b u k) := by
  unfold fsF
  rw [lp_shr (c := fun s => wsN b u s ≤ 1) hk, bc_lp (c := fun s => wsN b u (s + k) ≤ 1) (by omega), cnt_c]
  rfl
theorem bc_fs0 {b : Nat → Nat} {u : Nat} : bcF (fsF b u) = nI (mnF b u 0) := by
  unfold fsF
  rw [bc_lp (c := fun s => wsN b u s ≤ 1) (by omega)]
  exact cnt_c (k := 0) 13
def bzN (b : Nat → Nat) (u k : Nat) : Nat := max (mnF b u k) (mnF b u 0 - mnF b u k)
def bzS (b : Nat → Nat) (u k : Nat) (q : Int32 × Nat) : Int32 × Nat := if bzN b u (k + 1) < q.2 then (nI (k + 1), bzN b u (k + 1)) else q
theorem bzS_p {b : Nat → Nat} {u k : Nat} {q : Int32 × Nat} (c : bzN b u (k + 1) < q.2) : bzS b u k q = (nI (k + 1), bzN b u (k + 1)) := by unfold bzS; rw [if_pos c]
theorem bzS_n {b : Nat → Nat} {u k : Nat} {q : Int32 × Nat} (c : ¬ bzN b u (k + 1) < q.2) : bzS b u k q = q := by unfold bzS; rw [if_neg c]
def tsF (b : Nat → Nat) (u : Nat) : Int32 := if 2 ≤ mnF b u 0 then (lp (bzS b u) 12 (-1, 14)).1 else -1
theorem mn_13 {b : Nat → Nat} {u k : Nat} : mnF b u k ≤ 13 := by
  have := cN_le (b := b) (u := u) (13 - k) k
  unfold mnF; omega
theorem bz_13 {b : Nat → Nat} {u k : Nat} : bzN b u k ≤ 13 := by
  have h1 := mn_13 (b := b) (u := u) (k := k)
  have h2 := mn_13 (b := b) (u := u) (k := 0)
  unfold bzN; omega
theorem lp_first {α : Type} {f : Nat → α → α} {a a' : α} (e : f 0 a = f 0 a') : ∀ n, lp f (n + 1) a = lp f (n + 1) a'
  | 0 => e
  | n + 1 => by show f (n + 1) (lp f (n + 1) a) = f (n + 1) (lp f (n + 1) a'); rw [lp_first e n]
theorem bz_k {b : Nat → Nat} {u k : Nat} (hk : 14 ≤ k) : lp (bzS b u) 12 (-1, k) = lp (bzS b u) 12 (-1, 14) := by
  have h1 := bz_13 (b := b) (u := u) (k := 0 + 1)
  refine lp_first ?_ 11
  unfold bzS
  rw [if_pos (by show _ < k; omega), if_pos (by show _ < 14; omega)]
theorem bz_b {b : Nat → Nat} {u k : Nat} (hk : k < 2 ^ 31) : ∀ n, (lp (bzS b u) n (-1, k)).2 < 2 ^ 31
  | 0 => hk
  | n + 1 => by
    have := bz_b (b := b) (u := u) hk n
    have h1 := bz_13 (b := b) (u := u) (k := n + 1)
    show (bzS b u n (lp (bzS b u) n (-1, k))).2 < 2 ^ 31
    unfold bzS
    split
    · show bzN b u (n + 1) < 2 ^ 31; omega
    · exact this
/-! fingers -/
def dgG (b : Nat → Nat) : Nat → Nat → Int32
  | 0, _ => 1
  | d + 1, i => if 1 ≤ b i ∧ b i ≤ 9 then dgG b d (i + 1) else 0
def dgF (b : Nat → Nat) (u : Nat) : Int32 := if 6 < u then 0 else dgG b u 0
theorem dgG_01 {b : Nat → Nat} : ∀ d i, dgG b d i = 0 ∨ dgG b d i = 1
  | 0, _ => Or.inr rfl
  | d + 1, i => by
    unfold dgG
    split
    · exact dgG_01 d (i + 1)
    · exact Or.inl rfl
theorem dgF_01 {b : Nat → Nat} {u : Nat} : dgF b u = 0 ∨ dgF b u = 1 := by
  unfold dgF
  split
  · exact Or.inl rfl
  · exact dgG_01 _ _
theorem dgG_ok {b : Nat → Nat} : ∀ d i, dgG b d i = 1 → ∀ k, i ≤ k → k < i + d → 1 ≤ b k ∧ b k ≤ 9
  | 0, i, _, k, h1, h2 => by omega
  | d + 1, i, e, k, h1, h2 => by
    unfold dgG at e
    split at e
    · rename_i c
      by_cases z : k = i
      · subst z; exact c
      · exact dgG_ok d (i + 1) e k (by omega) (by omega)
    · exact absurd e (by decide)
theorem dgF_ok {b : Nat → Nat} {u : Nat} (e : dgF b u = 1) : u ≤ 6 ∧ ∀ k, k < u → 1 ≤ b k ∧ b k ≤ 9 := by
  unfold dgF at e
  split at e
  · exact absurd e (by decide)
  · exact ⟨by omega, fun k hk => dgG_ok u 0 e k (Nat.zero_le _) (by omega)⟩
def wnR (b : Nat → Nat) (f : Nat → Bool) (k i : Nat) (r : Bool) : Bool := r || (decide (b i ≤ k) && !f (k - b i))
def wnT (b : Nat → Nat) (u : Nat) : Nat → Nat → Bool
  | 0 => fun _ => false
  | k + 1 => fun j => if j = k then lp (wnR b (wnT b u k) k) u false else wnT b u k j
theorem wnT_st {b : Nat → Nat} {u k j : Nat} (hj : j < k) : ∀ d, wnT b u (k + d) j = wnT b u k j
  | 0 => rfl
  | d + 1 => by
    show (if j = k + d then _ else wnT b u (k + d) j) = _
    rw [if_neg (by omega), wnT_st hj d]
def opS (b : Nat → Nat) (f : Nat → Bool) (k i : Nat) (o : Int32) : Int32 := if (b i ≤ k ∧ f (k - b i) = false) ∧ (o = -1 ∨ nI (b i) < o) then nI (b i) else o
theorem opS_p {b : Nat → Nat} {f : Nat → Bool} {k i : Nat} {o : Int32} (c : (b i ≤ k ∧ f (k - b i) = false) ∧ (o = -1 ∨ nI (b i) < o)) : opS b f k i o = nI (b i) := by unfold opS; rw [if_pos c]
theorem opS_n {b : Nat → Nat} {f : Nat → Bool} {k i : Nat} {o : Int32} (c : ¬ ((b i ≤ k ∧ f (k - b i) = false) ∧ (o = -1 ∨ nI (b i) < o))) : opS b f k i o = o := by unfold opS; rw [if_neg c]
def opF (b : Nat → Nat) (u k : Nat) : Int32 := lp (opS b (wnT b u k) k) u (-1)
def leS (b : Nat → Nat) (f : Nat → Bool) (k i : Nat) (o : Int32) : Int32 := if b i ≤ k ∧ f (k - b i) = false then imin o (nI (b i)) else o
theorem leS_p {b : Nat → Nat} {f : Nat → Bool} {k i : Nat} {o : Int32} (c : b i ≤ k ∧ f (k - b i) = false) : leS b f k i o = imin o (nI (b i)) := by unfold leS; rw [if_pos c]
theorem leS_n {b : Nat → Nat} {f : Nat → Bool} {k i : Nat} {o : Int32} (c : ¬ (b i ≤ k ∧ f (k - b i) = false)) : leS b f k i o = o := by unfold leS; rw [if_neg c]
theorem op_rg {b : Nat → Nat} {f : Nat → Bool} {k u : Nat} (dg : ∀ i, i < u → 1 ≤ b i ∧ b i ≤ 9) : ∀ i, i ≤ u → (lp (opS b f k) i (-1) = -1 ∧ lp (wnR b f k) i false = false ∧ lp (leS b f k) i 1000000 = 1000000) ∨ ∃ q, 1 ≤ q ∧ q ≤ 9 ∧ lp (opS b f k) i (-1) = nI q ∧ lp (wnR b f k) i false = true ∧ lp (leS b f k) i 1000000 = nI q
  | 0, _ => Or.inl ⟨rfl, rfl, rfl⟩
  | i + 1, h => by
    have d := dg i (by omega)
    show (opS b f k i (lp (opS b f k) i (-1)) = -1 ∧ wnR b f k i (lp (wnR b f k) i false) = false ∧ leS b f k i (lp (leS b f k) i 1000000) = 1000000) ∨ ∃ q, 1 ≤ q ∧ q ≤ 9 ∧ opS b f k i (lp (opS b f k) i (-1)) = nI q ∧ wnR b f k i (lp (wnR b f k) i false) = true ∧ leS b f k i (lp (leS b f k) i 1000000) = nI q
    by_cases c : b i ≤ k ∧ f (k - b i) = false
    · rcases op_rg dg i (by omega) with ⟨e1, e2, e3⟩ | ⟨q, q1, q9, e1, e2, e3⟩
      · refine Or.inr ⟨b i, d.1, d.2, ?_, ?_, ?_⟩
        · rw [e1, opS_p ⟨c, Or.inl rfl⟩]
        · unfold wnR; simp [c.1, c.2]
        · rw [e3, leS_p c]
          have : (1000000 : Int32) = nI 1000000 := rfl
          rw [this, imin_nI (by decide) (by omega), Nat.min_eq_right (by omega)]
      · rw [e1, e3]
        refine Or.inr ⟨min q (b i), by omega, by omega, ?_, ?_, ?_⟩
        · by_cases z : b i < q
          · rw [opS_p ⟨c, Or.inr (nI_lt z (by omega))⟩, Nat.min_eq_right (by omega)]
          · rw [opS_n (fun y => by
              rcases y.2 with y | y
              · exact m1_ne (by omega) y
              · exact z ((nI_ltI (by omega) (by omega)).mp y)), Nat.min_eq_left (by omega)]
        · rw [e2]; rfl
        · rw [leS_p c, imin_nI (by omega) (by omega)]
    · have k1 : ∀ o, opS b f k i o = o := fun o => by unfold opS; rw [if_neg (fun z => c z.1)]
      have k2 : ∀ o, leS b f k i o = o := fun o => by unfold leS; rw [if_neg c]
      have k3 : ∀ r, wnR b f k i r = r := fun r => by
        unfold wnR
        by_cases z : b i ≤ k
        · have : f (k - b i) = true := by cases y : f (k - b i) <;> simp_all
          simp [this]
        · simp [z]
      rw [k1, k2, k3]
      exact op_rg dg i (by omega)
theorem wn_op {b : Nat → Nat} {u k : Nat} (dg : ∀ i, i < u → 1 ≤ b i ∧ b i ≤ 9) : wnT b u (k + 1) k = !decide (opF b u k = -1) := by
  show (if k = k then _ else _) = _
  rw [if_pos rfl]
  unfold opF
  rcases op_rg (f := wnT b u k) (k := k) dg u (Nat.le_refl _) with ⟨e1, e2, -⟩ | ⟨q, q1, q9, e1, e2, -⟩
  · rw [e1, e2]; rfl
  · rw [e1, e2]; simp [m1_ne (by omega : q < 2 ^ 31)]
def b2i (r : Bool) : Int32 := if r then 1 else 0
section TOLD3
variable {G : Gx} {h h' : Hp} {x v m : Nat} {A : Vs} {la : Nat} {b : Nat → Nat} {n u : Nat}
theorem okS_lt {a c : Nat} (h : okS a c = true) : (1 ≤ a ∧ a ≤ 12) ∧ c ≤ 1 := by unfold okS at h; simp at h; exact h
theorem t_tellsSizes (hl : G.1.stackTraces = false) (T : TpC h x b n u) : EvI G m_Td_tellsSizes [.ref (x + 1)] h (rowF okS b u) := by
  have hu := T.u400
  have by_ : ∀ j, j < 400 → b j < 256 := fun j hj => (T.2.2.2.2.2.2 j hj).1
  refine en_Td_tellsSizes h _ _ (e_Td_tellsSizes_0 hl h _ _ ⟨_, t_hasRows hl T, fun c => ?_, fun c => ⟨?_, rfl⟩⟩)
  · by_cases c1 : 40 < u
    · rw [if_pos c1] at c; exact absurd rfl c
    · rw [if_neg c1] at c
      by_cases c2 : u % 2 = 0
      · unfold rowF
        rw [if_neg c1, if_pos c2]
        suffices hh : ∀ d i, i + 2 * d = u → Ev G m_Td_tellsSizes 11 [.ref (x + 1), .int (nI i)] [] h 0 0 (fun o h' => o = .inl (some (.int (rowG okS b d i))) ∧ h' = h) from hh (u / 2) 0 (by omega)
        intro d
        induction d with
        | zero =>
          intro i hi
          exact e_Td_tellsSizes_11 hl h _ _ _ ⟨_, T.f2, fun _ => ⟨rfl, rfl⟩, fun c => absurd (by rw [← hi]; exact Int32.le_refl _) c⟩
        | succ d ih =>
          intro i hi
          have b0 := by_ i (by omega)
          have b1 := by_ (i + 1) (by omega)
          refine e_Td_tellsSizes_11 hl h _ _ _ ⟨_, T.f2, fun c => absurd c (nI_ge (by omega) (by omega)), fun _ => ⟨T.kd, _, t_at hl T (i := i) (by omega), fun c => ⟨?_, rfl⟩, fun c => ⟨T.kd, _, t_at hl T (i := i) (by omega), fun f => ⟨?_, rfl⟩, fun f => ⟨T.kd, nI (b (i + 1)), by rw [nI_1]; exact t_at hl T (by omega), fun e => ?_, fun e => ⟨?_, rfl⟩⟩⟩⟩⟩
          · have := (nI_ltI (b := 1) (by omega) (by decide)).mp c
            unfold rowG okS; rw [if_neg (by simp; omega)]
          · have := (nI_ltI (a := 12) (by decide) (by omega)).mp f
            unfold rowG okS; rw [if_neg (by simp; omega)]
          · have q1 : ¬ b i < 1 := fun q => c (nI_lt (b := 1) q (by decide))
            have q2 : ¬ 12 < b i := fun q => f (nI_lt (a := 12) q (by omega))
            have q3 := (nI_leI (b := 1) (by omega) (by decide)).mp e
            have := ih (i + 2) (by omega)
            rw [show nI i + 2 = nI (i + 2) from nI_add i 2]
            unfold rowG
            rw [if_pos (by unfold okS; simp; omega)]
            exact this
          · have q3 : ¬ b (i + 1) ≤ 1 := fun q => e (nI_le (b := 1) q (by decide))
            unfold rowG okS; rw [if_neg (by simp; omega)]
      · rw [if_neg c2] at c; exact absurd rfl c
  · unfold rowF
    by_cases c1 : 40 < u
    · rw [if_pos c1]
    · rw [if_neg c1] at c ⊢
      by_cases c2 : u % 2 = 0
      · rw [if_pos c2] at c; exact absurd c (by decide)
      · rw [if_neg c2]
theorem o_isStrong (hl : G.1.stackTraces = false) (Tp : TpM h m b n u) : EvI G m_Mo_isStrong [.ref m] h (rowF okS b u) := by
  have hu := Tp.u400
  have by_ : ∀ j, j < 400 → b j < 256 := fun j hj => (Tp.2.2.2.2.2.2 j hj).1
  have stop : ∀ i, Ev G m_Mo_isStrong 26 [.ref m, .int 0, .int i] [] h 0 0 (fun o h' => o = .inl (some (.int 0)) ∧ h' = h) := fun i =>
    e_Mo_isStrong_26 hl h _ _ _ _ ⟨_, Tp.f11, fun _ => bret_of (Or.inl rfl) ⟨rfl, rfl⟩, fun _ => ⟨fun _ => bret_of (Or.inl rfl) ⟨rfl, rfl⟩, fun c => absurd rfl c⟩⟩
  unfold rowF
  refine en_Mo_isStrong h _ _ (e_Mo_isStrong_0 hl h _ _ ⟨_, Tp.f11, by decide, fun c => ?_, fun c => ⟨_, Tp.f11, fun d => ?_, fun d => ?_⟩⟩)
  · rw [rm2 hu] at c
    have : ¬ u % 2 = 0 := fun z => c (by rw [z]; rfl)
    rw [if_neg this, ite_self]; exact stop 0
  · rw [if_pos ((nI_ltI (a := 40) (by decide) (by omega)).mp d)]; exact stop 0
  · rw [rm2 hu] at c
    have c2 : u % 2 = 0 := (nI_eq (by omega) (by decide)).mp (show nI (u % 2) = nI 0 from c)
    have c1 : ¬ 40 < u := fun z => d (nI_lt (a := 40) z (by omega))
    rw [if_neg c1, if_pos c2]
    suffices hh : ∀ d i, i + 2 * d = u → Ev G m_Mo_isStrong 26 [.ref m, .int 1, .int (nI i)] [] h 0 0 (fun o h' => o = .inl (some (.int (rowG okS b d i))) ∧ h' = h) from hh (u / 2) 0 (by omega)
    intro d
    induction d with
    | zero =>
      intro i hi
      exact e_Mo_isStrong_26 hl h _ _ _ _ ⟨_, Tp.f11, fun _ => bret_of (Or.inr rfl) ⟨rfl, rfl⟩, fun c => absurd (by rw [← hi]; exact Int32.le_refl _) c⟩
    | succ d ih =>
      intro i hi
      have b0 := by_ i (by omega)
      have b1 := by_ (i + 1) (by omega)
      have z0 := in_sx (k := b i) (lo := 1) (hi := 12) b0 (by omega) (by omega)
      have z1 := in_sx (k := b (i + 1)) (lo := 0) (hi := 1) b1 (by omega) (by omega)
      refine e_Mo_isStrong_26 hl h _ _ _ _ ⟨_, Tp.f11, fun c => absurd c (nI_ge (by omega) (by omega)), fun _ => ⟨fun c => absurd c (by decide), fun _ => ⟨_, Tp.r8, _, Tp.at (j := i) (by omega), _, o_ine hl z0, fun c => ?_, fun c => ⟨_, Tp.r8, sx (b (i + 1)), by rw [nI_1]; exact Tp.at (by omega), _, o_ine hl z1, fun e => ?_, fun e => ?_⟩⟩⟩⟩
      · have := ite0 c
        unfold rowG; rw [if_neg (by unfold okS; simp; omega)]; exact stop _
      · have := ite0 e
        unfold rowG; rw [if_neg (by unfold okS; simp; omega)]; exact stop _
      · have q0 := ite1 c
        have q1 := ite1 e
        rw [show nI i + 2 = nI (i + 2) from nI_add i 2]
        unfold rowG; rw [if_pos (by unfold okS; simp; omega)]
        exact ih (i + 2) (by omega)
theorem t_wst (hl : G.1.stackTraces = false) (Tp : TpC h x b n u) {s : Nat} (hs : s < 13) (ok : rowF okS b u = 1) : EvI G m_Td_wrongOfStrength [.ref (x + 1), .int (nI s)] h (nI (wsN b u s)) := by
  obtain ⟨u40, u2, row⟩ := rowF_ok ok
  refine en_Td_wrongOfStrength h _ _ _ (e_Td_wrongOfStrength_0 hl h _ _ _ ?_)
  suffices hh : ∀ d i k, i + 2 * d = u → i % 2 = 0 → Ev G m_Td_wrongOfStrength 4 [.ref (x + 1), .int (nI s), .int (nI k), .int (nI i), un] [] h 0 0 (fun o h' => o = .inl (some (.int (nI (wsG b s d i k)))) ∧ h' = h) from hh (u / 2) 0 0 (by omega) rfl
  intro d
  induction d with
  | zero =>
    intro i k hi _
    exact e_Td_wrongOfStrength_4 hl h _ _ _ _ _ ⟨_, Tp.f2, fun _ => ⟨rfl, rfl⟩, fun c => absurd (by rw [← hi]; exact Int32.le_refl _) c⟩
  | succ d ih =>
    intro i k hi h2
    have q := okS_lt (row i h2 (by omega))
    have st : ∀ c, (if (if s < b i then 0 else 1) = b (i + 1) then k else k + 1) = c → Ev G m_Td_wrongOfStrength 4 [.ref (x + 1), .int (nI s), .int (nI c), .int (nI i + 2), un] [] h 0 0 (fun o h' => o = .inl (some (.int (nI (wsG b s (d + 1) i k)))) ∧ h' = h) := fun c e => by
      rw [show nI i + 2 = nI (i + 2) from nI_add i 2]; unfold wsG; rw [e]; exact ih (i + 2) c (by omega) (by omega)
    refine e_Td_wrongOfStrength_4 hl h _ _ _ _ _ ⟨_, Tp.f2, fun c => absurd c (nI_ge (by omega) (by omega)), fun _ => ⟨Tp.kd, _, t_at hl Tp (i := i) (by omega), fun c => ⟨Tp.kd, nI (b (i + 1)), by rw [nI_1]; exact t_at hl Tp (by omega), fun e => ⟨fun _ => ?_, fun z => absurd rfl z⟩, fun e => ⟨fun z => absurd z (by decide), fun _ => ?_⟩⟩, fun c => ⟨Tp.kd, nI (b (i + 1)), by rw [nI_1]; exact t_at hl Tp (by omega), fun e => ⟨fun z => absurd z (by decide), fun _ => ?_⟩, fun e => ⟨fun _ => ?_, fun z => absurd rfl z⟩⟩⟩⟩
    · have c1 := (nI_ltI (by omega) (by omega)).mp c
      have e1 : ¬ b (i + 1) = 1 := fun z => e (by rw [z]; rfl)
      exact st k (by rw [if_pos c1, if_pos (by omega)])
    · have c1 := (nI_ltI (by omega) (by omega)).mp c
      have e1 : b (i + 1) = 1 := (nI_eq (by omega) (by decide)).mp (show nI (b (i + 1)) = nI 1 from e)
      rw [nI_1]; exact st (k + 1) (by rw [if_pos c1, if_neg (by omega)])
    · have c1 : ¬ s < b i := fun z => c (nI_lt z (by omega))
      have e1 : ¬ b (i + 1) = 1 := fun z => e (by rw [z]; rfl)
      rw [nI_1]; exact st (k + 1) (by rw [if_neg c1, if_neg (by omega)])
    · have c1 : ¬ s < b i := fun z => c (nI_lt z (by omega))
      have e1 : b (i + 1) = 1 := (nI_eq (by omega) (by decide)).mp (show nI (b (i + 1)) = nI 1 from e)
      exact st k (by rw [if_neg c1, if_pos (by omega)])
theorem o_ws (hl : G.1.stackTraces = false) (Tp : TpM h m b n u) {s : Nat} (hs : s < 13) (ok : rowF okS b u = 1) : EvI G m_Mo_wrongTries [.ref m, .int (nI s)] h (nI (wsN b u s)) := by
  obtain ⟨u40, u2, row⟩ := rowF_ok ok
  refine en_Mo_wrongTries h _ _ _ (e_Mo_wrongTries_0 hl h _ _ _ ?_)
  suffices hh : ∀ d i k, i + 2 * d = u → i % 2 = 0 → Ev G m_Mo_wrongTries 4 [.ref m, .int (nI s), .int (nI k), .int (nI i)] [] h 0 0 (fun o h' => o = .inl (some (.int (nI (wsG b s d i k)))) ∧ h' = h) from hh (u / 2) 0 0 (by omega) rfl
  intro d
  induction d with
  | zero =>
    intro i k hi _
    exact e_Mo_wrongTries_4 hl h _ _ _ _ _ ⟨_, Tp.f11, fun _ => ⟨rfl, rfl⟩, fun c => absurd (by rw [← hi]; exact Int32.le_refl _) c⟩
  | succ d ih =>
    intro i k hi h2
    have q := okS_lt (row i h2 (by omega))
    have st : ∀ c, (if (if s < b i then 0 else 1) = b (i + 1) then k else k + 1) = c → Ev G m_Mo_wrongTries 4 [.ref m, .int (nI s), .int (nI c), .int (nI i + 2)] [] h 0 0 (fun o h' => o = .inl (some (.int (nI (wsG b s (d + 1) i k)))) ∧ h' = h) := fun c e => by
      rw [show nI i + 2 = nI (i + 2) from nI_add i 2]; unfold wsG; rw [e]; exact ih (i + 2) c (by omega) (by omega)
    have a0 : aI h 103 (m + 6) (nI i) (nI (b i)) := by rw [← sx_lo (by omega : b i < 128)]; exact Tp.at (by omega)
    have a1 : aI h 103 (m + 6) (nI i + 1) (nI (b (i + 1))) := by rw [← sx_lo (by omega : b (i + 1) < 128), nI_1]; exact Tp.at (by omega)
    refine e_Mo_wrongTries_4 hl h _ _ _ _ _ ⟨_, Tp.f11, fun c => absurd c (nI_ge (by omega) (by omega)), fun _ => ⟨_, Tp.r8, _, a0, fun c => ⟨_, Tp.r8, _, a1, fun e => ?_, fun e => ?_⟩, fun c => ⟨_, Tp.r8, _, a1, fun e => ?_, fun e => ?_⟩⟩⟩
    · have c1 := (nI_ltI (by omega) (by omega)).mp c
      have e1 : ¬ b (i + 1) = 0 := fun z => e (by rw [z]; rfl)
      rw [nI_1]; exact st (k + 1) (by rw [if_pos c1, if_neg (by omega)])
    · have c1 := (nI_ltI (by omega) (by omega)).mp c
      have e1 : 0 = b (i + 1) := (nI_eq (by decide) (by omega)).mp (show nI 0 = nI (b (i + 1)) from e)
      rw [Int32.add_zero]; exact st k (by rw [if_pos c1, if_pos e1])
    · have c1 : ¬ s < b i := fun z => c (nI_lt z (by omega))
      have e1 : ¬ b (i + 1) = 1 := fun z => e (by rw [z]; rfl)
      rw [nI_1]; exact st (k + 1) (by rw [if_neg c1, if_neg (by omega)])
    · have c1 : ¬ s < b i := fun z => c (nI_lt z (by omega))
      have e1 : 1 = b (i + 1) := (nI_eq (by decide) (by omega)).mp (show nI 1 = nI (b (i + 1)) from e)
      rw [Int32.add_zero]; exact st k (by rw [if_neg c1, if_pos e1])
theorem t_fs (hl : G.1.stackTraces = false) (Tp : TpC h x b n u) (ok : rowF okS b u = 1) : EvI G m_Td_fittingStrengths [.ref (x + 1)] h (fsF b u) := by
  have u40 := (rowF_ok ok).1
  refine en_Td_fittingStrengths h _ _ (e_Td_fittingStrengths_0 hl h _ _ ?_)
  refine for_up (Q := fun t => Ev G m_Td_fittingStrengths 4 [.ref (x + 1), .int (lp (fun s r => if wsN b u s ≤ 1 then r ||| sh1 s else r) t 0), .int (nI t)] [] h 0 0 (fun o h' => o = .inl (some (.int (fsF b u))) ∧ h' = h)) (n := 13) ?_ (fun t ht ih => ?_) 0 (Nat.zero_le _)
  · exact e_Td_fittingStrengths_4 hl h _ _ _ _ ⟨fun _ => ⟨rfl, rfl⟩, fun c => absurd (by decide) c⟩
  · have w20 := wsN_le (b := b) (s := t) u40
    simp only [lp] at ih
    refine e_Td_fittingStrengths_4 hl h _ _ _ _ ⟨fun c => absurd c (nI_nlt (a := 12) (by omega) (by decide)), fun _ => ⟨_, t_wst hl Tp ht ok, fun c => ?_, fun c => ?_⟩⟩
    · have := (nI_ltI (a := 1) (by decide) (by omega)).mp c
      rw [if_neg (by omega)] at ih; rw [nI_1]; exact ih
    · have : ¬ 1 < wsN b u t := fun z => c (nI_lt (a := 1) z (by omega))
      rw [if_pos (by omega)] at ih; rw [nI_1]; exact ih
theorem t_least (hl : G.1.stackTraces = false) (Tp : TpC h x b n u) (ok : rowF okS b u = 1) : EvI G m_Td_leastStrength [.ref (x + 1)] h (lsF b u) := by
  have u40 := (rowF_ok ok).1
  refine en_Td_leastStrength h _ _ (e_Td_leastStrength_0 hl h _ _ ?_)
  refine for_up (Q := fun t => Ev G m_Td_leastStrength 6 [.ref (x + 1), .int (lp (lsS b u) t (-1, 2)).1, .int (nI (lp (lsS b u) t (-1, 2)).2), .int (nI t), un] [] h 0 0 (fun o h' => o = .inl (some (.int (lsF b u))) ∧ h' = h)) (n := 13) ?_ (fun t ht ih => ?_) 0 (Nat.zero_le _)
  · exact e_Td_leastStrength_6 hl h _ _ _ _ _ ⟨fun _ => ⟨rfl, rfl⟩, fun c => absurd (by decide) c⟩
  · have w20 := wsN_le (b := b) (s := t) u40
    have q1 := ls_b (b := b) (u := u) t
    have ih' : ∀ s', lsS b u t (lp (lsS b u) t (-1, 2)) = s' → Ev G m_Td_leastStrength 6 [.ref (x + 1), .int s'.1, .int (nI s'.2), .int (nI t + 1), un] [] h 0 0 (fun o h' => o = .inl (some (.int (lsF b u))) ∧ h' = h) := fun s' e => by rw [nI_1, ← e]; exact ih
    refine e_Td_leastStrength_6 hl h _ _ _ _ _ ⟨fun c => absurd c (nI_nlt (a := 12) (by omega) (by decide)), fun _ => ⟨_, t_wst hl Tp ht ok, fun c => ?_, fun c => ?_⟩⟩
    · have := (nI_leI (by omega) (by omega)).mp c
      exact ih' _ (lsS_n (by omega))
    · have : ¬ _ ≤ wsN b u t := fun z => c (nI_le z (by omega))
      exact ih' (nI t, wsN b u t) (lsS_p (Nat.lt_of_not_le this))
theorem o_many (hl : G.1.stackTraces = false) (Tp : TpM h m b n u) (W : WldAt h m A) {k : Nat} (hk : k ≤ 13) (ok : rowF okS b u = 1) : EvI G m_Mo_manyStrong [.ref m, .int (nI k)] h (nI (mnF b u k)) := by
  have u40 := (rowF_ok ok).1
  refine en_Mo_manyStrong h _ _ _ (e_Mo_manyStrong_0 hl h _ _ _ ?_)
  suffices hh : ∀ d s c, s + d = 13 → Ev G m_Mo_manyStrong 4 [.ref m, un, .int (nI c), .int (nI s)] [] h 0 0 (fun o h' => o = .inl (some (.int (nI (c + cN b u d s)))) ∧ h' = h) by
    have := hh (13 - k) k 0 (by omega)
    rw [Nat.zero_add] at this
    exact this
  intro d
  induction d with
  | zero =>
    intro s c hs
    exact e_Mo_manyStrong_4 hl h _ _ _ _ ⟨fun _ => ⟨rfl, rfl⟩, fun c => absurd (nI_le (a := 13) (by omega) (by omega)) c⟩
  | succ d ih =>
    intro s c hs
    have w20 := wsN_le (b := b) (s := s) u40
    refine e_Mo_manyStrong_4 hl h _ _ _ _ ⟨fun q => absurd q (nI_ge (b := 13) (by omega) (by decide)), fun _ => ⟨W.kd, _, o_ws hl Tp (by omega) ok, fun q => ?_, fun q => ?_⟩⟩
    · have := (nI_leI (a := 2) (by decide) (by omega)).mp q
      rw [nI_1, Int32.add_zero]
      unfold cN; rw [if_neg (by omega), Nat.zero_add]
      exact ih (s + 1) c (by omega)
    · have : ¬ 2 ≤ wsN b u s := fun z => q (nI_le (a := 2) z (by omega))
      rw [nI_1, nI_1]
      unfold cN; rw [if_pos (by omega), ← Nat.add_assoc]
      exact ih (s + 1) (c + 1) (by omega)
theorem o_strong33 (hl : G.1.stackTraces = false) (Tp : TpM h m b n u) (W : WldAt h m A) (ok : rowF okS b u = 1) (l : Int32) {P : Res → Hp → Prop} (fin : P (.inl (some (.int (if l = 0 then nI (mnF b u 0) else lsF b u)))) h) : Ev G m_Mo_strong 33 [.ref m, .int l, .int (-1), .int 2, .int 0, un] [] h 0 0 P := by
  have u40 := (rowF_ok ok).1
  refine for_up (Q := fun t => Ev G m_Mo_strong 33 [.ref m, .int l, .int (lp (lsS b u) t (-1, 2)).1, .int (nI (lp (lsS b u) t (-1, 2)).2), .int (nI t), un] [] h 0 0 P) (n := 13) ?_ (fun t ht ih => ?_) 0 (Nat.zero_le _)
  · refine e_Mo_strong_33 hl h _ _ _ _ _ _ ⟨fun _ => ⟨fun c => ⟨W.kd, _, o_many hl Tp W (k := 0) (by omega) ok, ?_⟩, fun c => ?_⟩, fun c => absurd (by decide) c⟩
    · rw [if_pos c] at fin; exact fin
    · rw [if_neg c] at fin; exact fin
  · have w20 := wsN_le (b := b) (s := t) u40
    have q1 := ls_b (b := b) (u := u) t
    have ih' : ∀ s', lsS b u t (lp (lsS b u) t (-1, 2)) = s' → Ev G m_Mo_strong 33 [.ref m, .int l, .int s'.1, .int (nI s'.2), .int (nI t + 1), un] [] h 0 0 P := fun s' e => by rw [nI_1, ← e]; exact ih
    refine e_Mo_strong_33 hl h _ _ _ _ _ _ ⟨fun c => absurd c (nI_ge (b := 13) ht (by decide)), fun _ => ⟨W.kd, _, o_ws hl Tp ht ok, fun c => ?_, fun c => ?_⟩⟩
    · have := (nI_leI (by omega) (by omega)).mp c
      rw [imin_nI (by omega) (by omega), Nat.min_eq_left this]
      exact ih' _ (lsS_n (by omega))
    · have : ¬ _ ≤ wsN b u t := fun z => c (nI_le z (by omega))
      rw [imin_nI (by omega) (by omega), Nat.min_eq_right (by omega)]
      exact ih' (nI t, wsN b u t) (lsS_p (Nat.lt_of_not_le this))
theorem bz_im {b : Nat → Nat} {u k : Nat} (hk : k ≤ 13) : imax (nI (mnF b u k)) (nI (mnF b u 0) - nI (mnF b u k)) = nI (bzN b u k) := by
  have h1 := mn_13 (b := b) (u := u) (k := k)
  have h2 := mn_13 (b := b) (u := u) (k := 0)
  rw [pk_sub (mn_0 k hk), imax_nI (by omega) (by omega)]
  rfl
theorem t_bestSize (hl : G.1.stackTraces = false) : EvI G m_Td_bestSize [.int (fsF b u)] h (tsF b u) := by
  have h2 := mn_13 (b := b) (u := u) (k := 0)
  unfold tsF
  refine en_Td_bestSize h _ _ (e_Td_bestSize_0 hl h _ _ ⟨nI (mnF b u 0), by rw [← bc_fs0]; exact j_bitCount hl _, fun c => ?_, fun c => ⟨?_, rfl⟩⟩)
  · rw [if_pos ((nI_leI (a := 2) (by decide) (by omega)).mp c)]
    refine for_up (Q := fun t => Ev G m_Td_bestSize 20 [.int (fsF b u), .int (nI (mnF b u 0)), .int (lp (bzS b u) t (-1, 14)).1, .int (nI (lp (bzS b u) t (-1, 14)).2), .int (nI (t + 1)), un, un] [] h 0 0 (fun o h' => o = .inl (some (.int (lp (bzS b u) 12 (-1, 14)).1)) ∧ h' = h)) (n := 12) ?_ (fun t ht ih => ?_) 0 (Nat.zero_le _)
    · exact e_Td_bestSize_20 hl h _ _ _ _ _ _ ⟨fun _ => ⟨rfl, rfl⟩, fun c => absurd (by decide) c⟩
    · have q1 := bz_b (b := b) (u := u) (k := 14) (by decide) t
      have h3 := bz_13 (b := b) (u := u) (k := t + 1)
      have ih' : ∀ s', bzS b u t (lp (bzS b u) t (-1, 14)) = s' → Ev G m_Td_bestSize 20 [.int (fsF b u), .int (nI (mnF b u 0)), .int s'.1, .int (nI s'.2), .int (nI (t + 1) + 1), un, un] [] h 0 0 (fun o h' => o = .inl (some (.int (lp (bzS b u) 12 (-1, 14)).1)) ∧ h' = h) := fun s' e => by rw [nI_1, ← e]; exact ih
      refine e_Td_bestSize_20 hl h _ _ _ _ _ _ ⟨fun c => absurd c (nI_nlt (a := 12) (by omega) (by decide)), fun _ => ⟨nI (mnF b u (t + 1)), by rw [← bc_fs (by omega)]; exact j_bitCount hl _, fun c => ?_, fun c => ?_⟩⟩
      · rw [bz_im (by omega)] at c
        have := (nI_leI q1 (by omega)).mp c
        exact ih' _ (bzS_n (by omega))
      · rw [bz_im (by omega)] at c ⊢
        have : ¬ _ ≤ bzN b u (t + 1) := fun z => c (nI_le z (by omega))
        exact ih' (nI (t + 1), bzN b u (t + 1)) (bzS_p (Nat.lt_of_not_le this))
  · rw [if_neg (fun z => c (nI_le (a := 2) z (by omega)))]
theorem o_test41 (hl : G.1.stackTraces = false) (Tp : TpM h m b n u) (W : WldAt h m A) (ok : rowF okS b u = 1) {P : Res → Hp → Prop} (fin : P (.inl (some (.int (tsF b u)))) h) : Ev G m_Mo_test 41 [.ref m, .int (nI (mnF b u 0)), .int (-1), .int 1000000, .int 1, un] [] h 0 0 P := by
  have h2 := mn_13 (b := b) (u := u) (k := 0)
  unfold tsF at fin
  by_cases hb : 2 ≤ mnF b u 0
  · rw [if_pos hb, ← bz_k (k := 1000000) (by decide)] at fin
    refine for_up (Q := fun t => Ev G m_Mo_test 41 [.ref m, .int (nI (mnF b u 0)), .int (lp (bzS b u) t (-1, 1000000)).1, .int (nI (lp (bzS b u) t (-1, 1000000)).2), .int (nI (t + 1)), un] [] h 0 0 P) (n := 12) ?_ (fun t ht ih => ?_) 0 (Nat.zero_le _)
    · exact e_Mo_test_41 hl h _ _ _ _ _ _ ⟨fun _ => fin, fun c => absurd (by decide) c⟩
    · have q1 := bz_b (b := b) (u := u) (k := 1000000) (by decide) t
      have h3 := bz_13 (b := b) (u := u) (k := t + 1)
      have ih' : ∀ s', bzS b u t (lp (bzS b u) t (-1, 1000000)) = s' → Ev G m_Mo_test 41 [.ref m, .int (nI (mnF b u 0)), .int s'.1, .int (nI s'.2), .int (nI (t + 1) + 1), un] [] h 0 0 P := fun s' e => by rw [nI_1, ← e]; exact ih
      refine e_Mo_test_41 hl h _ _ _ _ _ _ ⟨fun c => absurd c (nI_nlt (a := 12) (by omega) (by decide)), fun _ => ⟨fun c => absurd ((nI_leI (b := 1) (by omega) (by decide)).mp c) (by omega), fun _ => ⟨W.kd, _, o_many hl Tp W (by omega) ok, W.kd, _, o_many hl Tp W (by omega) ok, fun c => ?_, fun c => ?_⟩⟩⟩
      · rw [bz_im (by omega)] at c ⊢
        have := (nI_leI q1 (by omega)).mp c
        rw [imin_nI q1 (by omega), Nat.min_eq_left this]
        exact ih' _ (bzS_n (by omega))
      · rw [bz_im (by omega)] at c ⊢
        have : ¬ _ ≤ bzN b u (t + 1) := fun z => c (nI_le z (by omega))
        rw [imin_nI q1 (by omega), Nat.min_eq_right (by omega)]
        exact ih' (nI (t + 1), bzN b u (t + 1)) (bzS_p (Nat.lt_of_not_le this))
  · rw [if_neg hb] at fin
    exact e_Mo_test_41 hl h _ _ _ _ _ _ ⟨fun c => absurd c (by decide), fun _ => ⟨fun _ => fin, fun c => absurd (nI_le (b := 1) (by omega) (by decide)) c⟩⟩
/-! fingers -/
theorem t_tellsFingers (hl : G.1.stackTraces = false) (T : TpC h x b n u) : EvI G m_Td_tellsFingers [.ref (x + 1)] h (dgF b u) := by
  have hu := T.u400
  have by_ : ∀ j, j < 400 → b j < 256 := fun j hj => (T.2.2.2.2.2.2 j hj).1
  unfold dgF
  refine en_Td_tellsFingers h _ _ (e_Td_tellsFingers_0 hl h _ _ ⟨_, T.f2, fun c => ?_, fun c => ⟨?_, rfl⟩⟩)
  · have c1 := (nI_leI (b := 6) (by omega) (by decide)).mp c
    rw [if_neg (by omega)]
    suffices hh : ∀ d i, i + d = u → Ev G m_Td_tellsFingers 13 [.ref (x + 1), .int (nI i)] [] h 0 0 (fun o h' => o = .inl (some (.int (dgG b d i))) ∧ h' = h) from hh u 0 (by omega)
    intro d
    induction d with
    | zero =>
      intro i hi
      exact e_Td_tellsFingers_13 hl h _ _ _ ⟨_, T.f2, fun _ => ⟨rfl, rfl⟩, fun c => absurd (by rw [← hi]; exact Int32.le_refl _) c⟩
    | succ d ih =>
      intro i hi
      have b0 := by_ i (by omega)
      refine e_Td_tellsFingers_13 hl h _ _ _ ⟨_, T.f2, fun c => absurd c (nI_ge (by omega) (by omega)), fun _ => ⟨T.kd, _, t_at hl T (i := i) (by omega), fun c => ⟨?_, rfl⟩, fun c => ⟨T.kd, _, t_at hl T (i := i) (by omega), fun f => ?_, fun f => ⟨?_, rfl⟩⟩⟩⟩
      · have := (nI_ltI (b := 1) (by omega) (by decide)).mp c
        unfold dgG; rw [if_neg (by omega)]
      · have q1 : ¬ b i < 1 := fun q => c (nI_lt (b := 1) q (by decide))
        have q2 := (nI_leI (b := 9) (by omega) (by decide)).mp f
        rw [nI_1]; unfold dgG; rw [if_pos (by omega)]; exact ih (i + 1) (by omega)
      · have q2 : ¬ b i ≤ 9 := fun q => f (nI_le (b := 9) q (by decide))
        unfold dgG; rw [if_neg (by omega)]
  · rw [if_pos (by
      rcases Nat.lt_or_ge 6 u with q | q
      · exact q
      · exact absurd (nI_le (b := 6) q (by decide)) c)]
theorem o_isFingers (hl : G.1.stackTraces = false) (Tp : TpM h m b n u) (k : Int32) : EvI G m_Mo_isFingers [.ref m, .int k] h (if noF (nI 100) k = 1 then 0 else dgF b u) := by
  have hu := Tp.u400
  have by_ : ∀ j, j < 400 → b j < 256 := fun j hj => (Tp.2.2.2.2.2.2 j hj).1
  have stop : ∀ i, Ev G m_Mo_isFingers 27 [.ref m, un, .int 0, .int i] [] h 0 0 (fun o h' => o = .inl (some (.int 0)) ∧ h' = h) := fun i =>
    e_Mo_isFingers_27 hl h _ _ _ _ ⟨_, Tp.f11, fun _ => bret_of (Or.inl rfl) ⟨rfl, rfl⟩, fun _ => ⟨fun _ => bret_of (Or.inl rfl) ⟨rfl, rfl⟩, fun c => absurd rfl c⟩⟩
  have k4 := in_no4 (w := k) 99 (by decide)
  unfold dgF
  refine en_Mo_isFingers h _ _ _ (e_Mo_isFingers_0 hl h _ _ _ ⟨_, Tp.f11, fun c => ?_, fun c => ⟨_, o_in hl k 0 99, fun d => ?_, fun d => ?_⟩⟩)
  · rw [if_pos ((nI_ltI (a := 6) (by decide) (by omega)).mp c), ite_self]; exact stop 0
  · rcases num_cases 100 (by decide) k with ⟨e, -⟩ | ⟨e, -⟩
    · rw [if_pos e]; exact stop 0
    · have := k4.2 e
      rw [show (99 : Int32) = nI 99 from rfl, this] at d; exact absurd d (by decide)
  · have c1 : ¬ 6 < u := fun z => c (nI_lt (a := 6) z (by omega))
    rcases num_cases 100 (by decide) k with ⟨e, -⟩ | ⟨e, -⟩
    · have := k4.1 e
      rw [show (99 : Int32) = nI 99 from rfl, this] at d; exact absurd rfl d
    · rw [if_neg (by rw [e]; decide), if_neg c1]
      suffices hh : ∀ d i, i + d = u → Ev G m_Mo_isFingers 27 [.ref m, un, .int 1, .int (nI i)] [] h 0 0 (fun o h' => o = .inl (some (.int (dgG b d i))) ∧ h' = h) from hh u 0 (by omega)
      intro d
      induction d with
      | zero =>
        intro i hi
        exact e_Mo_isFingers_27 hl h _ _ _ _ ⟨_, Tp.f11, fun _ => bret_of (Or.inr rfl) ⟨rfl, rfl⟩, fun c => absurd (by rw [← hi]; exact Int32.le_refl _) c⟩
      | succ d ih =>
        intro i hi
        have b0 := by_ i (by omega)
        have z0 := in_sx (k := b i) (lo := 1) (hi := 9) b0 (by omega) (by omega)
        refine e_Mo_isFingers_27 hl h _ _ _ _ ⟨_, Tp.f11, fun c => absurd c (nI_ge (by omega) (by omega)), fun _ => ⟨fun c => absurd c (by decide), fun _ => ⟨_, Tp.r8, _, Tp.at (j := i) (by omega), _, o_ine hl z0, ?_⟩⟩⟩
        rw [nI_1]; unfold dgG
        by_cases q : 1 ≤ b i ∧ b i ≤ 9
        · rw [if_pos q, if_pos q]; exact ih (i + 1) (by omega)
        · rw [if_neg q, if_neg q]; exact stop _
end TOLD3
