/-! ===== things put to hands: the dearest first, each to the weakest hand, is the most ===== -/
def rmB (F : Nat → Bool) (f : Nat) : Nat → Bool := fun i => F i && !decide (i = f)
def adB (F : Nat → Bool) (f : Nat) : Nat → Bool := fun i => F i || decide (i = f)
def mx (c : Nat → Bool) (v : Nat → Nat) (n base : Nat) : Nat := lp (fun i k => if c i = true then max k (v i) else k) n base
theorem mx_le {c : Nat → Bool} {v : Nat → Nat} {base X : Nat} : ∀ n, mx c v n base ≤ X ↔ base ≤ X ∧ ∀ i, i < n → c i = true → v i ≤ X
  | 0 => ⟨fun h => ⟨h, fun i hi => by omega⟩, fun h => h.1⟩
  | n + 1 => by
    show (if c n = true then max (mx c v n base) (v n) else mx c v n base) ≤ X ↔ _
    by_cases h : c n = true
    · rw [if_pos h, Nat.max_le, mx_le n]
      constructor
      · intro ⟨⟨a, b⟩, d⟩
        refine ⟨a, fun i hi hc => ?_⟩
        by_cases q : i = n
        · subst q; exact d
        · exact b i (by omega) hc
      · intro ⟨a, b⟩
        exact ⟨⟨a, fun i hi hc => b i (by omega) hc⟩, b n (by omega) h⟩
    · rw [if_neg h, mx_le n]
      constructor
      · intro ⟨a, b⟩
        refine ⟨a, fun i hi hc => ?_⟩
        by_cases q : i = n
        · subst q; exact absurd hc h
        · exact b i (by omega) hc
      · intro ⟨a, b⟩
        exact ⟨a, fun i hi hc => b i (by omega) hc⟩
theorem mx_base {c : Nat → Bool} {v : Nat → Nat} {n base : Nat} : base ≤ mx c v n base := ((mx_le n).mp (Nat.le_refl _)).1
theorem mx_at {c : Nat → Bool} {v : Nat → Nat} {n base i : Nat} (hi : i < n) (hc : c i = true) : v i ≤ mx c v n base := ((mx_le n).mp (Nat.le_refl _)).2 i hi hc
theorem mx_is {c : Nat → Bool} {v : Nat → Nat} {base : Nat} : ∀ n, mx c v n base = base ∨ ∃ i, i < n ∧ c i = true ∧ mx c v n base = v i
  | 0 => Or.inl rfl
  | n + 1 => by
    have e : mx c v (n + 1) base = if c n = true then max (mx c v n base) (v n) else mx c v n base := rfl
    rw [e]
    have ih := mx_is (c := c) (v := v) (base := base) n
    by_cases h : c n = true
    · rw [if_pos h]
      by_cases q : mx c v n base ≤ v n
      · exact Or.inr ⟨n, by omega, h, Nat.max_eq_right q⟩
      · rw [Nat.max_eq_left (by omega)]
        exact ih.imp id (fun ⟨i, a, b, d⟩ => ⟨i, by omega, b, d⟩)
    · rw [if_neg h]
      exact ih.imp id (fun ⟨i, a, b, d⟩ => ⟨i, by omega, b, d⟩)
theorem le_ext {a b : Nat} (h : ∀ X, a ≤ X ↔ b ≤ X) : a = b := Nat.le_antisymm ((h b).mpr (Nat.le_refl _)) ((h a).mp (Nat.le_refl _))
theorem rmB_t {F : Nat → Bool} {f i : Nat} : rmB F f i = true ↔ F i = true ∧ i ≠ f := by unfold rmB; simp
theorem adB_t {F : Nat → Bool} {f i : Nat} : adB F f i = true ↔ F i = true ∨ i = f := by unfold adB; simp
theorem rmB_comm {F : Nat → Bool} {f e : Nat} : rmB (rmB F f) e = rmB (rmB F e) f := by
  funext i; unfold rmB; cases F i <;> simp [Bool.and_comm]
theorem rm_ad {F : Nat → Bool} {f : Nat} (h : F f = false) : rmB (adB F f) f = F := by
  funext i; unfold rmB adB
  by_cases q : i = f
  · subst q; simp [h]
  · simp [q]
theorem rm_ad2 {F : Nat → Bool} {f e : Nat} (h : e ≠ f) : rmB (adB F f) e = adB (rmB F e) f := by
  funext i; unfold rmB adB
  by_cases q : i = f
  · subst q; simp [Ne.symm h]
  · simp [q]
def opt (g z w : Nat → Nat) (S : Nat → Bool) (o : Nat → Nat) : Nat → Nat → (Nat → Bool) → Nat
  | 0, _, _ => 0
  | d + 1, i, F => if S (o i) = true then mx (fun f => F f && decide (z (o i) ≤ g f)) (fun f => w (o i) + opt g z w S o d (i + 1) (rmB F f)) 7 (opt g z w S o d (i + 1) F) else opt g z w S o d (i + 1) F
section OPT
variable {g z w : Nat → Nat} {S S' : Nat → Bool} {o : Nat → Nat} {F : Nat → Bool} {d i X : Nat}
theorem opt_s (h : S (o i) = true) : opt g z w S o (d + 1) i F ≤ X ↔ opt g z w S o d (i + 1) F ≤ X ∧ ∀ f, f < 7 → F f = true → z (o i) ≤ g f → w (o i) + opt g z w S o d (i + 1) (rmB F f) ≤ X := by
  show (if S (o i) = true then _ else _) ≤ X ↔ _
  rw [if_pos h, mx_le]
  constructor
  · intro ⟨a, b⟩; exact ⟨a, fun f hf h1 h2 => b f hf (by simp [h1, h2])⟩
  · intro ⟨a, b⟩; exact ⟨a, fun f hf h1 => by
      rw [Bool.and_eq_true] at h1
      exact b f hf h1.1 (of_decide_eq_true h1.2)⟩
theorem opt_n (h : ¬ S (o i) = true) : opt g z w S o (d + 1) i F = opt g z w S o d (i + 1) F := by
  show (if S (o i) = true then _ else _) = _
  rw [if_neg h]
theorem opt_skip : opt g z w S o d (i + 1) F ≤ opt g z w S o (d + 1) i F := by
  by_cases h : S (o i) = true
  · exact ((opt_s h).mp (Nat.le_refl _)).1
  · rw [opt_n h]; exact Nat.le_refl _
theorem opt_take (h : S (o i) = true) {f : Nat} (hf : f < 7) (h1 : F f = true) (h2 : z (o i) ≤ g f) : w (o i) + opt g z w S o d (i + 1) (rmB F f) ≤ opt g z w S o (d + 1) i F := ((opt_s h).mp (Nat.le_refl _)).2 f hf h1 h2
/-- the stronger hand is missed more -/
theorem optA {f f' : Nat} (hne : f ≠ f') (hg : g f ≤ g f') (hf' : f' < 7) : ∀ d i (F : Nat → Bool), F f = true → F f' = true → opt g z w S o d i (rmB F f') ≤ opt g z w S o d i (rmB F f)
  | 0, _, _, _, _ => Nat.le_refl _
  | d + 1, i, F, h1, h2 => by
    by_cases h : S (o i) = true
    · refine (opt_s h).mpr ⟨Nat.le_trans (optA hne hg hf' d (i + 1) F h1 h2) opt_skip, fun e he h3 h4 => ?_⟩
      by_cases q : e = f
      · subst q
        rw [rmB_comm]
        exact opt_take h hf' (rmB_t.mpr ⟨h2, Ne.symm hne⟩) (Nat.le_trans h4 hg)
      · obtain ⟨h5, h6⟩ := rmB_t.mp h3
        have := optA hne hg hf' d (i + 1) (rmB F e) (rmB_t.mpr ⟨h1, Ne.symm q⟩) (rmB_t.mpr ⟨h2, Ne.symm h6⟩)
        rw [rmB_comm]
        refine Nat.le_trans (Nat.add_le_add_left this _) ?_
        rw [rmB_comm]
        exact opt_take h he (rmB_t.mpr ⟨h5, q⟩) h4
    · rw [opt_n h, opt_n h]; exact optA hne hg hf' d (i + 1) F h1 h2
/-- one hand less costs one thing at most -/
theorem optB {W f : Nat} : ∀ d i (F : Nat → Bool), F f = true → (∀ j, i ≤ j → j < i + d → w (o j) ≤ W) → opt g z w S o d i F ≤ W + opt g z w S o d i (rmB F f)
  | 0, _, _, _, _ => Nat.zero_le _
  | d + 1, i, F, h1, hw => by
    have ih := fun (F : Nat → Bool) (h : F f = true) => optB d (i + 1) F h (fun j a b => hw j (by omega) (by omega))
    by_cases h : S (o i) = true
    · refine (opt_s h).mpr ⟨Nat.le_trans (ih F h1) (Nat.add_le_add_left opt_skip _), fun e he h3 h4 => ?_⟩
      by_cases q : e = f
      · subst q
        exact Nat.add_le_add (hw i (Nat.le_refl _) (by omega)) opt_skip
      · have a := ih (rmB F e) (rmB_t.mpr ⟨h1, Ne.symm q⟩)
        have b := opt_take (g := g) (z := z) (w := w) (d := d) h he (rmB_t.mpr ⟨h3, q⟩ : rmB F f e = true) h4
        rw [rmB_comm] at b
        omega
    · rw [opt_n h, opt_n h]; exact ih F h1
theorem opt_congr : ∀ d i (F : Nat → Bool), (∀ j, i ≤ j → j < i + d → S (o j) = S' (o j)) → opt g z w S o d i F = opt g z w S' o d i F
  | 0, _, _, _ => rfl
  | d + 1, i, F, e => by
    have ih := fun (F : Nat → Bool) => opt_congr d (i + 1) F (fun j a b => e j (by omega) (by omega))
    have e0 := e i (Nat.le_refl _) (by omega)
    refine le_ext (fun X => ?_)
    by_cases h : S (o i) = true
    · rw [opt_s h, opt_s (e0 ▸ h), ih]
      constructor
      · intro ⟨a, b⟩; exact ⟨a, fun f h1 h2 h3 => by rw [← ih]; exact b f h1 h2 h3⟩
      · intro ⟨a, b⟩; exact ⟨a, fun f h1 h2 h3 => by rw [ih]; exact b f h1 h2 h3⟩
    · rw [opt_n h, opt_n (e0 ▸ h), ih]
/-- a hand more: it holds nothing, or one of the things -/
theorem opt_hand {p : Nat} (hp : p < 7) : ∀ d i (S : Nat → Bool) (F : Nat → Bool) (X : Nat), (∀ j k, i ≤ j → j < k → k < i + d → o j ≠ o k) → F p = false → (opt g z w S o d i (adB F p) ≤ X ↔ opt g z w S o d i F ≤ X ∧ ∀ j, i ≤ j → j < i + d → S (o j) = true → z (o j) ≤ g p → w (o j) + opt g z w (rmB S (o j)) o d i F ≤ X)
  | 0, i, S, F, X, _, _ => ⟨fun _ => ⟨Nat.zero_le _, fun j a b => by omega⟩, fun _ => Nat.zero_le _⟩
  | d + 1, i, S, F, X, nd, hF => by
    have ih := fun (S F : Nat → Bool) (X : Nat) (h : F p = false) => opt_hand hp d (i + 1) S F X (fun j k a b c => nd j k (by omega) b (by omega)) h
    by_cases h : S (o i) = true
    · rw [opt_s h, opt_s h, ih S F X hF]
      have e0 : opt g z w (rmB S (o i)) o (d + 1) i F = opt g z w S o d (i + 1) F := by
        rw [opt_n (by rw [rmB_t]; exact fun q => q.2 rfl)]
        refine opt_congr _ _ _ (fun j a b => ?_)
        unfold rmB
        rw [decide_eq_false (Ne.symm (nd i j (Nat.le_refl _) (by omega) (by omega))), Bool.not_false, Bool.and_true]
      have hS : ∀ j, i + 1 ≤ j → j < i + 1 + d → rmB S (o j) (o i) = true := fun j a b => rmB_t.mpr ⟨h, nd i j (Nat.le_refl _) (by omega) (by omega)⟩
      constructor
      · intro ⟨⟨a1, a2⟩, b⟩
        refine ⟨⟨a1, fun f hf h1 h2 => ?_⟩, fun j j1 j2 h1 h2 => ?_⟩
        · have q : f ≠ p := fun q => by rw [q, hF] at h1; cases h1
          have := b f hf (adB_t.mpr (Or.inl h1)) h2
          rw [rm_ad2 q] at this
          have lo := ((ih S (rmB F f) _ (by unfold rmB; rw [hF]; rfl)).mp (Nat.le_refl _)).1
          omega
        · by_cases q : j = i
          · subst q
            rw [e0]
            have := b p hp (adB_t.mpr (Or.inr rfl)) h2
            rw [rm_ad hF] at this; exact this
          · have hj := hS j (by omega) (by omega)
            have t1 : opt g z w (rmB S (o j)) o (d + 1) i F ≤ X - w (o j) := by
              refine (opt_s hj).mpr ⟨?_, fun f hf h3 h4 => ?_⟩
              · have := a2 j (by omega) (by omega) h1 h2; omega
              · have qf : f ≠ p := fun q => by rw [q, hF] at h3; cases h3
                have := b f hf (adB_t.mpr (Or.inl h3)) h4
                rw [rm_ad2 qf] at this
                have lo := ((ih S (rmB F f) _ (by unfold rmB; rw [hF]; rfl)).mp (Nat.le_refl _)).2 j (by omega) (by omega) h1 h2
                omega
            have := a2 j (by omega) (by omega) h1 h2
            omega
      · intro ⟨⟨a1, a2⟩, b⟩
        refine ⟨⟨a1, fun j j1 j2 h1 h2 => ?_⟩, fun f hf h1 h2 => ?_⟩
        · have := b j (by omega) (by omega) h1 h2
          have s : opt g z w (rmB S (o j)) o d (i + 1) F ≤ opt g z w (rmB S (o j)) o (d + 1) i F := opt_skip
          omega
        · rcases adB_t.mp h1 with h3 | h3
          · have q : f ≠ p := fun q => by rw [q, hF] at h3; cases h3
            rw [rm_ad2 q]
            have l1 := a2 f hf h3 h2
            have t1 : opt g z w S o d (i + 1) (adB (rmB F f) p) ≤ X - w (o i) := by
              refine (ih S (rmB F f) _ (by unfold rmB; rw [hF]; rfl)).mpr ⟨by omega, fun j j1 j2 h4 h5 => ?_⟩
              have l2 := b j (by omega) (by omega) h4 h5
              have l3 := opt_take (g := g) (z := z) (w := w) (d := d) (F := F) (hS j j1 j2) hf h3 h2
              omega
            omega
          · subst h3
            rw [rm_ad hF]
            have := b i (Nat.le_refl _) (by omega) h h2
            rw [e0] at this; exact this
    · have nr : ∀ j, ¬ rmB S (o j) (o i) = true := fun j q => h (rmB_t.mp q).1
      rw [opt_n h, opt_n h, ih S F X hF]
      constructor
      · intro ⟨a1, a2⟩
        refine ⟨a1, fun j j1 j2 h1 h2 => ?_⟩
        have q : j ≠ i := fun q => h (q ▸ h1)
        rw [opt_n (nr j)]; exact a2 j (by omega) (by omega) h1 h2
      · intro ⟨a1, a2⟩
        refine ⟨a1, fun j j1 j2 h1 h2 => ?_⟩
        have := a2 j (by omega) (by omega) h1 h2
        rw [opt_n (nr j)] at this; exact this
end OPT
def wkS (g : Nat → Nat) (F : Nat → Bool) (s p : Nat) (o : Int32) : Int32 := if F p = true ∧ s ≤ g p ∧ (o = -1 ∨ g p < g o.toNatClampNeg) then nI p else o
def wkF (g : Nat → Nat) (F : Nat → Bool) (s : Nat) : Int32 := lp (wkS g F s) 7 (-1)
theorem wk_sp {g : Nat → Nat} {F : Nat → Bool} {s : Nat} : ∀ n, n ≤ 7 → (lp (wkS g F s) n (-1) = -1 ∧ ∀ p, p < n → F p = true → ¬ s ≤ g p) ∨ ∃ q, q < n ∧ lp (wkS g F s) n (-1) = nI q ∧ F q = true ∧ s ≤ g q ∧ ∀ p, p < n → F p = true → s ≤ g p → g q ≤ g p
  | 0, _ => Or.inl ⟨rfl, fun p hp => by omega⟩
  | n + 1, hn => by
    have e : lp (wkS g F s) (n + 1) (-1) = wkS g F s n (lp (wkS g F s) n (-1)) := rfl
    rcases wk_sp (g := g) (F := F) (s := s) n (by omega) with ⟨e1, e2⟩ | ⟨q, q1, e1, e2, e3, e4⟩
    · rw [e, e1]
      unfold wkS
      by_cases c : F n = true ∧ s ≤ g n
      · rw [if_pos ⟨c.1, c.2, Or.inl rfl⟩]
        refine Or.inr ⟨n, by omega, rfl, c.1, c.2, fun p hp h1 h2 => ?_⟩
        by_cases z : p = n
        · subst z; exact Nat.le_refl _
        · exact absurd h2 (e2 p (by omega) h1)
      · rw [if_neg (fun z => c ⟨z.1, z.2.1⟩)]
        refine Or.inl ⟨rfl, fun p hp h1 h2 => ?_⟩
        by_cases z : p = n
        · subst z; exact c ⟨h1, h2⟩
        · exact e2 p (by omega) h1 h2
    · rw [e, e1]
      unfold wkS
      rw [nI_clamp (by omega)]
      by_cases c : F n = true ∧ s ≤ g n ∧ g n < g q
      · rw [if_pos ⟨c.1, c.2.1, Or.inr c.2.2⟩]
        refine Or.inr ⟨n, by omega, rfl, c.1, c.2.1, fun p hp h1 h2 => ?_⟩
        by_cases z : p = n
        · subst z; exact Nat.le_refl _
        · have := e4 p (by omega) h1 h2; omega
      · rw [if_neg (fun z => by
          rcases z.2.2 with y | y
          · exact m1_ne (by omega) y
          · exact c ⟨z.1, z.2.1, y⟩)]
        refine Or.inr ⟨q, by omega, rfl, e2, e3, fun p hp h1 h2 => ?_⟩
        by_cases z : p = n
        · subst z
          rcases Nat.lt_or_ge (g p) (g q) with y | y
          · exact absurd ⟨h1, h2, y⟩ c
          · exact y
        · exact e4 p (by omega) h1 h2
def gr (g z w : Nat → Nat) (S : Nat → Bool) (o : Nat → Nat) : Nat → Nat → (Nat → Bool) → Nat
  | 0, _, _ => 0
  | d + 1, i, F => if S (o i) = true then (if wkF g F (z (o i)) = -1 then gr g z w S o d (i + 1) F else w (o i) + gr g z w S o d (i + 1) (rmB F (wkF g F (z (o i))).toNatClampNeg)) else gr g z w S o d (i + 1) F
theorem gr_opt {g z w : Nat → Nat} {S : Nat → Bool} {o : Nat → Nat} : ∀ d i (F : Nat → Bool), (∀ j k, i ≤ j → j < k → k < i + d → w (o k) ≤ w (o j)) → gr g z w S o d i F = opt g z w S o d i F
  | 0, _, _, _ => rfl
  | d + 1, i, F, so => by
    have ih := fun F => gr_opt (g := g) (z := z) (w := w) (S := S) (o := o) d (i + 1) F (fun j k a b c => so j k (by omega) b (by omega))
    unfold gr
    by_cases h : S (o i) = true
    · rw [if_pos h]
      rcases wk_sp (g := g) (F := F) (s := z (o i)) 7 (Nat.le_refl _) with ⟨e1, e2⟩ | ⟨q, q1, e1, e2, e3, e4⟩
      · rw [if_pos (show wkF g F (z (o i)) = -1 from e1), ih]
        refine le_ext (fun X => ?_)
        rw [opt_s h]
        exact ⟨fun a => ⟨a, fun f hf h1 h2 => absurd h2 (e2 f hf h1)⟩, fun a => a.1⟩
      · rw [show wkF g F (z (o i)) = nI q from e1, if_neg (m1_ne (by omega)), nI_clamp (by omega), ih]
        refine Nat.le_antisymm (opt_take h q1 e2 e3) ?_
        refine (opt_s h).mpr ⟨optB d (i + 1) F e2 (fun j a b => so i j (Nat.le_refl _) (by omega) (by omega)), fun f hf h1 h2 => ?_⟩
        by_cases y : f = q
        · subst y; exact Nat.le_refl _
        · exact Nat.add_le_add_left (optA (Ne.symm y) (e4 f hf h1 h2) hf d (i + 1) F e2 h1) _
    · rw [if_neg h, opt_n h, ih]
/-- the most of people from p on, d of them, of the things that are not taken -/
def pm (g z w : Nat → Nat) (lv : Nat → Bool) (nt : Nat) : Nat → Nat → Nat → Nat
  | 0, _, _ => 0
  | d + 1, p, k => mx (fun t => !k.testBit t && (lv p && decide (z t ≤ g p))) (fun t => w t + pm g z w lv nt d (p + 1) (k ||| 2 ^ t)) nt (pm g z w lv nt d (p + 1) k)
def hnd (lv : Nat → Bool) (p d : Nat) : Nat → Bool := fun i => decide (p ≤ i ∧ i < p + d) && lv i
theorem or_bit {k t j : Nat} : (k ||| 2 ^ t).testBit j = (k.testBit j || decide (t = j)) := by rw [Nat.testBit_or, Nat.testBit_two_pow]
theorem pm_opt {g z w : Nat → Nat} {lv : Nat → Bool} {o : Nat → Nat} {nt : Nat} (nd : ∀ j k, j < k → k < nt → o j ≠ o k) (on : ∀ t, t < nt → ∃ j, j < nt ∧ o j = t) (lt : ∀ j, j < nt → o j < nt) : ∀ d p k, p + d ≤ 7 → pm g z w lv nt d p k = opt g z w (fun t => !k.testBit t) o nt 0 (hnd lv p d)
  | 0, p, k, _ => by
    have e : ∀ d i (F : Nat → Bool), (∀ f, f < 7 → F f = false) → opt g z w (fun t => !k.testBit t) o d i F = 0 := by
      intro d
      induction d with
      | zero => intro i F _; rfl
      | succ d ih =>
        intro i F hF
        refine Nat.le_antisymm ?_ (Nat.zero_le _)
        by_cases h : (!k.testBit (o i)) = true
        · exact (opt_s (S := fun t => !k.testBit t) h).mpr ⟨by rw [ih (i + 1) F hF]; exact Nat.le_refl _, fun f hf h1 => by rw [hF f hf] at h1; cases h1⟩
        · rw [opt_n (S := fun t => !k.testBit t) h, ih (i + 1) F hF]; exact Nat.le_refl _
    rw [e nt 0 (hnd lv p 0) (fun f _ => by unfold hnd; rw [decide_eq_false (by omega)]; rfl)]; rfl
  | d + 1, p, k, hp => by
    have ih := fun k => pm_opt (g := g) (z := z) (w := w) (lv := lv) nd on lt d (p + 1) k (by omega)
    have eS : ∀ t, (fun j => !(k ||| 2 ^ t).testBit j) = rmB (fun t => !k.testBit t) t := fun t => by
      funext j; unfold rmB; rw [or_bit]
      by_cases q : t = j
      · subst q; simp
      · simp [q, Ne.symm q]
    unfold pm
    refine le_ext (fun X => ?_)
    rw [mx_le]
    by_cases hl : lv p = true
    · have eF : hnd lv p (d + 1) = adB (hnd lv (p + 1) d) p := by
        funext i; unfold hnd adB
        by_cases q : i = p
        · subst q; simp [hl]
        · simp only [q, decide_false, Bool.or_false]
          congr 1
          exact decide_eq_decide.mpr (by omega)
      rw [eF, opt_hand (by omega) nt 0 _ _ X (fun j k _ b c => nd j k b (by omega)) (by unfold hnd; rw [decide_eq_false (by omega)]; rfl), ih]
      constructor
      · intro ⟨a, b⟩
        refine ⟨a, fun j _ j2 h1 h2 => ?_⟩
        have := b (o j) (lt j (by omega)) (by simp only [hl, Bool.true_and, Bool.and_eq_true]; exact ⟨h1, decide_eq_true h2⟩)
        rw [ih, eS] at this; exact this
      · intro ⟨a, b⟩
        refine ⟨a, fun t ht h1 => ?_⟩
        simp only [hl, Bool.true_and, Bool.and_eq_true] at h1
        obtain ⟨j, hj, rfl⟩ := on t ht
        have := b j (Nat.zero_le _) (by omega) h1.1 (of_decide_eq_true h1.2)
        rw [ih, eS]; exact this
    · have hl' : lv p = false := by cases q : lv p <;> simp_all
      have eF : hnd lv p (d + 1) = hnd lv (p + 1) d := by
        funext i; unfold hnd
        by_cases q : i = p
        · subst q; simp [hl']
        · congr 1
          exact decide_eq_decide.mpr (by omega)
      rw [eF, ih]
      exact ⟨fun a => a.1, fun a => ⟨a, fun t _ h1 => by rw [hl'] at h1; simp at h1⟩⟩
