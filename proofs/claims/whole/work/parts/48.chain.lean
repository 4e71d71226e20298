/-! ===== lines of heirs; counts ===== -/
theorem pigeon : ∀ (n : Nat) (c : Nat → Nat), (∀ i, i ≤ n → c i < n) → ∃ i j, i < j ∧ j ≤ n ∧ c i = c j := by
  intro n
  induction n with
  | zero => intro c h; exact absurd (h 0 (Nat.le_refl _)) (Nat.not_lt_zero _)
  | succ n ih =>
    intro c h
    by_cases hx : ∃ i, i ≤ n ∧ c i = c (n + 1)
    · obtain ⟨i, hi, e⟩ := hx
      exact ⟨i, n + 1, by omega, Nat.le_refl _, e⟩
    · have hne : ∀ i, i ≤ n → c i ≠ c (n + 1) := fun i hi e => hx ⟨i, hi, e⟩
      obtain ⟨i, j, h1, h2, h3⟩ := ih (fun i => if c i = n then c (n + 1) else c i) (fun i hi => by
        show (if c i = n then c (n + 1) else c i) < n
        have := h i (by omega)
        have hl := h (n + 1) (Nat.le_refl _)
        have hn := hne i hi
        split <;> omega)
      refine ⟨i, j, h1, by omega, ?_⟩
      have e : (if c i = n then c (n + 1) else c i) = (if c j = n then c (n + 1) else c j) := h3
      have hi' := hne i (by omega)
      have hj' := hne j h2
      split at e <;> split at e <;> omega
/-- whoever comes down a line is one of the first n, or nobody -/
def chn (f : Nat → Nat) (o : Nat) : Nat → Nat
  | 0 => o
  | k + 1 => f (chn f o k)
theorem chn_add {f : Nat → Nat} {o : Nat} {i j : Nat} (e : chn f o i = chn f o j) : ∀ k, chn f o (i + k) = chn f o (j + k)
  | 0 => e
  | k + 1 => by show f (chn f o (i + k)) = f (chn f o (j + k)); rw [chn_add e k]
theorem chn_mem {f : Nat → Nat} {n o : Nat} (h0 : o ≤ n) (hf : ∀ q, q ≤ n → f q ≤ n) (hn : f n = n) (k : Nat) : chn f o k = n ∨ ∃ i, i < n ∧ chn f o k = chn f o i := by
  have hle : ∀ k, chn f o k ≤ n := fun k => by
    induction k with
    | zero => exact h0
    | succ k ih => exact hf _ ih
  have habs : ∀ i, chn f o i = n → ∀ k, chn f o (i + k) = n := fun i e k => by
    induction k with
    | zero => exact e
    | succ k ih => show f (chn f o (i + k)) = n; rw [ih, hn]
  by_cases hx : ∃ i, i ≤ n ∧ chn f o i = n
  · obtain ⟨i, hi, e⟩ := hx
    rcases Nat.lt_or_ge k n with hk | hk
    · exact Or.inr ⟨k, hk, rfl⟩
    · have := habs i e (k - i)
      rw [show i + (k - i) = k by omega] at this
      exact Or.inl this
  · obtain ⟨i, j, h1, h2, h3⟩ := pigeon n (chn f o) (fun i hi => by
      have := hle i
      have : chn f o i ≠ n := fun e => hx ⟨i, hi, e⟩
      omega)
    refine Or.inr ?_
    induction k using Nat.strongRecOn with
    | _ k ih =>
      rcases Nat.lt_or_ge k j with hk | hk
      · exact ⟨k, by omega, rfl⟩
      · obtain ⟨i', q1, q2⟩ := ih (i + (k - j)) (by omega)
        refine ⟨i', q1, ?_⟩
        have := chn_add h3 (k - j)
        rw [show j + (k - j) = k by omega] at this
        rw [← this]; exact q2
/-- the next in line, nobody being nP -/
def nxt (A : Vs) (q : Nat) : Nat := if q < nP A then (if A 3 q = -1 then nP A else (A 3 q).toNatClampNeg) else nP A
def cod (A : Vs) (o : Int32) : Nat := if o = -1 then nP A else o.toNatClampNeg
theorem nxt_le {A : Vs} (R : Hr A) (h7 : nP A ≤ 7) (q : Nat) : nxt A q ≤ nP A := by
  unfold nxt
  split
  · rename_i h
    split
    · exact Nat.le_refl _
    · rename_i c
      rcases R q h with e | ⟨r, hr, e⟩
      · exact absurd e c
      · rw [e, nI_clamp (by omega)]; omega
  · exact Nat.le_refl _
theorem nxt_n {A : Vs} : nxt A (nP A) = nP A := by unfold nxt; rw [if_neg (Nat.lt_irrefl _)]
theorem nxt_cod {A : Vs} {q : Nat} (hq : q < nP A) : cod A (A 3 q) = nxt A q := by unfold cod nxt; rw [if_pos hq]
def good (A : Vs) (p : Int32) (q : Nat) : Prop := q < nP A ∧ nI q ≠ p ∧ A 5 q = 1
/-- the first d of a line: nobody good, or the first good one -/
theorem succG_chn {A : Vs} (R : Hr A) (h7 : nP A ≤ 7) (p : Int32) : ∀ (d o : Nat), o ≤ nP A → (∀ o' : Int32, cod A o' = o → (o' = -1 ∨ ∃ q, q < nP A ∧ o' = nI q) → (succG A p d o' = -1 ∧ ∀ i, i < d → ¬ good A p (chn (nxt A) o i)) ∨ ∃ i, i < d ∧ good A p (chn (nxt A) o i) ∧ succG A p d o' = nI (chn (nxt A) o i) ∧ ∀ j, j < i → ¬ good A p (chn (nxt A) o j))
  | 0, o, _ => fun o' _ _ => Or.inl ⟨rfl, fun i hi => absurd hi (Nat.not_lt_zero _)⟩
  | d + 1, o, ho => by
    intro o' ec hv
    have hsh : ∀ i, chn (nxt A) o (i + 1) = chn (nxt A) (nxt A o) i := fun i => by
      induction i with
      | zero => rfl
      | succ i ih => show nxt A (chn (nxt A) o (i + 1)) = nxt A (chn (nxt A) (nxt A o) i); rw [ih]
    unfold succG
    by_cases c : o' = -1
    · rw [if_pos c]
      have eo : o = nP A := by rw [← ec, cod, if_pos c]
      refine Or.inl ⟨rfl, fun i _ => ?_⟩
      have : chn (nxt A) o i = nP A := by
        rw [eo]
        induction i with
        | zero => rfl
        | succ i ih => show nxt A (chn (nxt A) (nP A) i) = nP A; rw [ih (by omega), nxt_n]
      rw [this]
      exact fun z => Nat.lt_irrefl _ z.1
    · rw [if_neg c]
      rcases hv with hv | ⟨q, hq, e⟩
      · exact absurd hv c
      · have hcl : o'.toNatClampNeg = q := by rw [e, nI_clamp (by omega)]
        have eo : o = q := by rw [← ec, cod, if_neg c, hcl]
        subst eo
        rw [hcl]
        by_cases g : o' ≠ p ∧ A 5 o = 1
        · rw [if_pos g]
          exact Or.inr ⟨0, by omega, ⟨hq, (show nI o ≠ p by rw [← e]; exact g.1), g.2⟩, e, fun j hj => absurd hj (Nat.not_lt_zero _)⟩
        · rw [if_neg g]
          have ng : ¬ good A p o := fun z => g ⟨by rw [e]; exact z.2.1, z.2.2⟩
          rcases succG_chn R h7 p d (nxt A o) (nxt_le R h7 o) (A 3 o) (nxt_cod hq) (R o hq) with ⟨h1, h2⟩ | ⟨i, h1, h2, h3, h4⟩
          · refine Or.inl ⟨h1, fun i hi => ?_⟩
            cases i with
            | zero => exact ng
            | succ i => rw [hsh]; exact h2 i (by omega)
          · refine Or.inr ⟨i + 1, by omega, by rw [hsh]; exact h2, by rw [hsh]; exact h3, fun j hj => ?_⟩
            cases j with
            | zero => exact ng
            | succ j => rw [hsh]; exact h4 j (by omega)
theorem cod_le {A : Vs} (h7 : nP A ≤ 7) {o : Int32} (ho : o = -1 ∨ ∃ q, q < nP A ∧ o = nI q) : cod A o ≤ nP A := by
  unfold cod
  rcases ho with rfl | ⟨q, hq, rfl⟩
  · rw [if_pos rfl]; exact Nat.le_refl _
  · rw [if_neg (m1_ne (by omega)), nI_clamp (by omega)]; omega
theorem succG_more {A : Vs} (R : Hr A) (h7 : nP A ≤ 7) (p o : Int32) (ho : o = -1 ∨ ∃ q, q < nP A ∧ o = nI q) {d : Nat} (hd : nP A ≤ d) : succG A p d o = succG A p (nP A) o := by
  have hm := chn_mem (f := nxt A) (cod_le h7 ho) (fun q _ => nxt_le R h7 q) nxt_n
  rcases succG_chn R h7 p (nP A) _ (cod_le h7 ho) o rfl ho with ⟨h1, h2⟩ | ⟨i, h1, h2, h3, h4⟩
  · rcases succG_chn R h7 p d _ (cod_le h7 ho) o rfl ho with ⟨q1, q2⟩ | ⟨i, q1, q2, q3, q4⟩
    · rw [h1, q1]
    · rcases hm i with e | ⟨j, hj, e⟩
      · rw [e] at q2; exact absurd q2.1 (Nat.lt_irrefl _)
      · rw [e] at q2; exact absurd q2 (h2 j hj)
  · rcases succG_chn R h7 p d _ (cod_le h7 ho) o rfl ho with ⟨q1, q2⟩ | ⟨j, q1, q2, q3, q4⟩
    · exact absurd h2 (q2 i (by omega))
    · have : i = j := by
        rcases Nat.lt_trichotomy i j with z | z | z
        · exact absurd h2 (q4 i z)
        · exact z
        · exact absurd q2 (h4 j z)
      rw [h3, q3, this]
/-! counts -/
theorem bc_lp {c : Nat → Prop} [DecidablePred c] {n : Nat} (hn : n ≤ 13) : bcF (lp (fun t b => if c t then b ||| sh1 t else b) n 0) = lp (fun t k => if c t then k + 1 else k) n 0 := by
  have hb : ∀ i, i < 32 → bt (lp (fun t b => if c t then b ||| sh1 t else b) n 0) i = decide (i < n ∧ c i) := fun i hi => lp_bits (by omega) hi
  obtain ⟨s, hs, e⟩ := small_of_bits (x := lp (fun t b => if c t then b ||| sh1 t else b) n 0) (n := n) (by omega) (fun i hi hz => by rw [hb i hi]; simp; omega)
  have hs13 : s < 8192 := by
    have := Nat.pow_le_pow_right (n := 2) (by decide) hn
    omega
  have ht : ∀ i, i < 32 → s.testBit i = decide (i < n ∧ c i) := fun i hi => by rw [← hb i hi, e, bt_nI hi]
  rw [e, bcF_small s hs13]
  have hz := cntN_zero (s := s) (n := n) (fun i h1 h2 => by rw [ht i h2]; simp; omega) (13 - n) (by omega)
  rw [show n + (13 - n) = 13 by omega] at hz
  unfold pcN
  rw [hz]
  have key : ∀ m, m ≤ n → nI (cntN s m 0) = lp (fun t k => if c t then k + 1 else k) m 0 := by
    intro m
    induction m with
    | zero => intro _; rfl
    | succ m ih =>
      intro hm
      show _ = (if c m then lp (fun t k => if c t then k + 1 else k) m 0 + 1 else lp (fun t k => if c t then k + 1 else k) m 0)
      rw [cntN_snoc, Nat.zero_add, ht m (by omega), ← ih (by omega)]
      by_cases cm : c m
      · rw [if_pos cm, if_pos (by simp [cm]; omega), nI_1]
      · rw [if_neg cm, if_neg (by simp [cm]), Nat.add_zero]
  exact key n (Nat.le_refl _)
theorem oth_eq {A : Vs} (B : Bd A) {p : Nat} (hp : p < nP A) : bcF (flagF A 5 &&& (sh1 p ^^^ -1)) = othF A (nI p) := by
  have h7 := B.2.1
  have e : flagF A 5 &&& (sh1 p ^^^ -1) = lp (fun t b => if A 5 t = 1 ∧ t ≠ p then b ||| sh1 t else b) (nP A) 0 := by
    refine b_ext (fun i hi => ?_)
    rw [b_and, flagF_bt (by omega) hi, bt_inv hi, b_sh1 (by omega) hi, lp_bits (c := fun t => A 5 t = 1 ∧ t ≠ p) (by omega) hi]
    by_cases h1 : i < nP A <;> by_cases h2 : A 5 i = 1 <;> by_cases h3 : i = p <;> simp [h1, h2, h3]
  rw [e, bc_lp (c := fun t => A 5 t = 1 ∧ t ≠ p) (by omega)]
  unfold othF
  refine lp_congr (fun t ht k => ?_) 0
  by_cases h3 : t = p
  · rw [if_neg (fun z => z.2 h3), if_pos (by rw [h3])]
  · rw [if_neg (fun z => h3 ((nI_eq (by omega) (by omega)).mp z))]
    by_cases h2 : A 5 t = 1
    · rw [if_pos ⟨h2, h3⟩, if_pos h2]
    · rw [if_neg (fun z => h2 z.1), if_neg h2, Int32.add_zero]
