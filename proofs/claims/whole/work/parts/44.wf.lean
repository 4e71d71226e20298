/-! ===== what always holds of a valley ===== -/
def Rg (x : Int32) (n : Nat) : Prop := ∃ k, k ≤ n ∧ x = nI k
def Lv (A : Vs) (x : Int32) : Prop := ∃ q, q < nP A ∧ x = nI q ∧ A 5 q = 1
def WfP (A : Vs) (p : Nat) : Prop := (A 4 p = 0 ∨ A 4 p = 1) ∧ (A 5 p = 0 ∨ A 5 p = 1) ∧ Rg (A 1 p) 99 ∧ Rg (A 2 p) 9
def WfT (A : Vs) (t : Nat) : Prop := (A 8 t = -1 ∨ Lv A (A 8 t)) ∧ ((A 9 t = 0 ∧ A 10 t = -1) ∨ ((A 9 t = 1 ∨ A 9 t = 2) ∧ Lv A (A 10 t))) ∧ Rg (A 6 t) 99 ∧ Rg (A 7 t) 12
def Un (A : Vs) : Prop := ∀ t u, t < nT A → u < nT A → A 9 t = 1 → A 9 u = 1 → A 10 t = A 10 u → t = u
def Wf (A : Vs) : Prop := Bd A ∧ Hr A ∧ (∀ p, p < nP A → WfP A p) ∧ (∀ t, t < nT A → WfT A t) ∧ Un A ∧ Rg (A 0 7) 60 ∧ Rg (A 0 6) 12
theorem Lv.congr {A A' : Vs} {x : Int32} (h : Lv A x) (hp : nP A' = nP A) (e : ∀ q, q < nP A → A' 5 q = A 5 q) : Lv A' x := by
  obtain ⟨q, h1, h2, h3⟩ := h
  exact ⟨q, by rw [hp]; exact h1, h2, by rw [e q h1]; exact h3⟩
theorem nP_up {A : Vs} {k j : Nat} {x : Int32} (h : ¬ (k = 0 ∧ j = 0)) : nP (up A k j x) = nP A := by unfold nP; rw [up_ne (fun z => h ⟨z.1.symm, z.2.symm⟩)]
theorem nT_up {A : Vs} {k j : Nat} {x : Int32} (h : ¬ (k = 0 ∧ j = 1)) : nT (up A k j x) = nT A := by unfold nT; rw [up_ne (fun z => h ⟨z.1.symm, z.2.symm⟩)]
theorem Bd_up {A : Vs} {k j : Nat} {x : Int32} (B : Bd A) (h : ¬ (k = 0 ∧ j < 2)) : Bd (up A k j x) := by
  unfold Bd
  rw [nP_up (by omega), nT_up (by omega), up_ne (by omega), up_ne (by omega)]
  exact B
theorem m1_ne {q : Nat} (h : q < 2 ^ 31) : nI q ≠ -1 := fun z => by
  have := nI_pos h
  rw [z] at this
  exact this (by decide)
/-- rows 0 (places 2 to 5) and the log are free -/
theorem Wf.congr {A A' : Vs} (W : Wf A) (e : ∀ k j, (1 ≤ k ∧ k ≤ 10) ∨ (k = 0 ∧ j < 2) → A' k j = A k j) (e7 : Rg (A' 0 7) 60) (e6 : Rg (A' 0 6) 12) : Wf A' := by
  obtain ⟨B, R, P, T, U, L7, L6⟩ := W
  have hP : nP A' = nP A := by unfold nP; rw [e 0 0 (by omega)]
  have hT : nT A' = nT A := by unfold nT; rw [e 0 1 (by omega)]
  have hL : ∀ x, Lv A x → Lv A' x := fun x z => z.congr hP (fun q _ => e 5 q (by omega))
  refine ⟨?_, ?_, fun p hp => ?_, fun t ht => ?_, ?_, e7, e6⟩
  · unfold Bd; rw [hP, hT, e 0 0 (by omega), e 0 1 (by omega)]; exact B
  · unfold Hr; rw [hP]; intro p hp; rw [e 3 p (by omega)]; exact R p hp
  · rw [hP] at hp; unfold WfP; rw [e 4 p (by omega), e 5 p (by omega), e 1 p (by omega), e 2 p (by omega)]; exact P p hp
  · rw [hT] at ht; have := T t ht
    unfold WfT at this ⊢
    rw [e 8 t (by omega), e 9 t (by omega), e 10 t (by omega), e 6 t (by omega), e 7 t (by omega)]
    refine ⟨this.1.imp id (hL _), this.2.1.imp id (fun z => ⟨z.1, hL _ z.2⟩), this.2.2⟩
  · unfold Un; rw [hT]; intro t u ht hu; rw [e 9 t (by omega), e 9 u (by omega), e 10 t (by omega), e 10 u (by omega)]; exact U t u ht hu
theorem Wf.log {A : Vs} (W : Wf A) (a0 a1 a2 a3 a4 : Int32) : Wf (logA A a0 a1 a2 a3 a4) := by
  refine W.congr (fun k j h => logA_lo (by omega)) ?_ (by rw [logA_lo (by omega)]; exact W.2.2.2.2.2.2)
  obtain ⟨n, hn, e⟩ := W.2.2.2.2.2.1
  refine ⟨min (n + 1) 60, by omega, ?_⟩
  unfold logA
  rw [if_neg (by decide), if_pos ⟨rfl, rfl⟩, e, nI_1]
  exact imin_nI (by omega) (by decide)
theorem Wf.up0 {A : Vs} (W : Wf A) {j : Nat} (hj : 2 ≤ j ∧ j ≤ 5) (x : Int32) : Wf (up A 0 j x) :=
  W.congr (fun k i h => up_ne (by omega)) (by rw [up_ne (by omega)]; exact W.2.2.2.2.2.1) (by rw [up_ne (by omega)]; exact W.2.2.2.2.2.2)
theorem Wf.texts {A : Vs} (W : Wf A) {x : Int32} (hx : Rg x 12) : Wf (up A 0 6 x) :=
  W.congr (fun k i h => up_ne (by omega)) (by rw [up_ne (by omega)]; exact W.2.2.2.2.2.1) (by rw [up_same]; exact hx)
/-- a row of people, but not of the living -/
theorem Wf.upP {A : Vs} (W : Wf A) {k p : Nat} {x : Int32} (hk : 1 ≤ k ∧ k ≤ 4) (h1 : k = 1 → Rg x 99) (h2 : k = 2 → Rg x 9) (h3 : k = 3 → x = -1 ∨ ∃ q, q < nP A ∧ x = nI q) (h4 : k = 4 → x = 0 ∨ x = 1) : Wf (up A k p x) := by
  obtain ⟨B, R, P, T, U, L7, L6⟩ := W
  have hP : nP (up A k p x) = nP A := nP_up (by omega)
  have hT : nT (up A k p x) = nT A := nT_up (by omega)
  have hL : ∀ y, Lv A y → Lv (up A k p x) y := fun y z => z.congr hP (fun q _ => up_ne (by omega))
  refine ⟨Bd_up B (by omega), ?_, fun q hq => ?_, fun t ht => ?_, ?_, by rw [up_ne (by omega)]; exact L7, by rw [up_ne (by omega)]; exact L6⟩
  · unfold Hr; rw [hP]; intro q hq
    by_cases z : 3 = k ∧ q = p
    · obtain ⟨rfl, rfl⟩ := z; rw [up_same]; exact h3 rfl
    · rw [up_ne z]; exact R q hq
  · rw [hP] at hq
    have := P q hq
    unfold WfP at this ⊢
    refine ⟨?_, ?_, ?_, ?_⟩
    · by_cases z : 4 = k ∧ q = p
      · obtain ⟨rfl, rfl⟩ := z; rw [up_same]; exact h4 rfl
      · rw [up_ne z]; exact this.1
    · rw [up_ne (by omega)]; exact this.2.1
    · by_cases z : 1 = k ∧ q = p
      · obtain ⟨rfl, rfl⟩ := z; rw [up_same]; exact h1 rfl
      · rw [up_ne z]; exact this.2.2.1
    · by_cases z : 2 = k ∧ q = p
      · obtain ⟨rfl, rfl⟩ := z; rw [up_same]; exact h2 rfl
      · rw [up_ne z]; exact this.2.2.2
  · rw [hT] at ht; have := T t ht
    unfold WfT at this ⊢
    rw [up_ne (by omega), up_ne (by omega), up_ne (by omega), up_ne (by omega), up_ne (by omega)]
    refine ⟨this.1.imp id (hL _), this.2.1.imp id (fun z => ⟨z.1, hL _ z.2⟩), this.2.2⟩
  · unfold Un; rw [hT]; intro t u ht hu; rw [up_ne (by omega), up_ne (by omega), up_ne (by omega), up_ne (by omega)]; exact U t u ht hu
theorem Wf.own {A : Vs} (W : Wf A) {t : Nat} {x : Int32} (hx : x = -1 ∨ Lv A x) : Wf (up A 8 t x) := by
  obtain ⟨B, R, P, T, U, L7, L6⟩ := W
  have hP : nP (up A 8 t x) = nP A := nP_up (by omega)
  have hT : nT (up A 8 t x) = nT A := nT_up (by omega)
  have hL : ∀ y, Lv A y → Lv (up A 8 t x) y := fun y z => z.congr hP (fun q _ => up_ne (by omega))
  refine ⟨Bd_up B (by omega), ?_, fun q hq => ?_, fun u hu => ?_, ?_, by rw [up_ne (by omega)]; exact L7, by rw [up_ne (by omega)]; exact L6⟩
  · unfold Hr; rw [hP]; intro q hq; rw [up_ne (by omega)]; exact R q hq
  · rw [hP] at hq; have := P q hq; unfold WfP at this ⊢
    rw [up_ne (by omega), up_ne (by omega), up_ne (by omega), up_ne (by omega)]; exact this
  · rw [hT] at hu; have := T u hu
    unfold WfT at this ⊢
    rw [up_ne (by omega : ¬ (9 = 8 ∧ u = t)), up_ne (by omega : ¬ (10 = 8 ∧ u = t)), up_ne (by omega : ¬ (6 = 8 ∧ u = t)), up_ne (by omega : ¬ (7 = 8 ∧ u = t))]
    refine ⟨?_, this.2.1.imp id (fun z => ⟨z.1, hL _ z.2⟩), this.2.2⟩
    by_cases z : 8 = 8 ∧ u = t
    · obtain ⟨-, rfl⟩ := z; rw [up_same]; exact hx.imp id (hL _)
    · rw [up_ne z]; exact this.1.imp id (hL _)
  · unfold Un; rw [hT]; intro t' u ht hu; rw [up_ne (by omega), up_ne (by omega), up_ne (by omega), up_ne (by omega)]; exact U t' u ht hu
def mvA (A : Vs) (t : Nat) (w x : Int32) : Vs := up (up A 9 t w) 10 t x
theorem mvA_ne {A : Vs} {t : Nat} {w x : Int32} {k j : Nat} (h : ¬ ((k = 9 ∨ k = 10) ∧ j = t)) : mvA A t w x k j = A k j := by
  unfold mvA; rw [up_ne (by omega), up_ne (by omega)]
theorem mvA_9 {A : Vs} {t : Nat} {w x : Int32} : mvA A t w x 9 t = w := by unfold mvA; rw [up_ne (by omega), up_same]
theorem mvA_10 {A : Vs} {t : Nat} {w x : Int32} : mvA A t w x 10 t = x := by unfold mvA; rw [up_same]
theorem Wf.mv {A : Vs} (W : Wf A) {t : Nat} {w x : Int32} (hx : (w = 0 ∧ x = -1) ∨ ((w = 1 ∨ w = 2) ∧ Lv A x)) (hu : w = 1 → ∀ u, u < nT A → u ≠ t → A 9 u = 1 → A 10 u ≠ x) : Wf (mvA A t w x) := by
  obtain ⟨B, R, P, T, U, L7, L6⟩ := W
  have hP : nP (mvA A t w x) = nP A := by unfold mvA; rw [nP_up (by omega), nP_up (by omega)]
  have hT : nT (mvA A t w x) = nT A := by unfold mvA; rw [nT_up (by omega), nT_up (by omega)]
  have hL : ∀ y, Lv A y → Lv (mvA A t w x) y := fun y z => z.congr hP (fun q _ => mvA_ne (by omega))
  refine ⟨Bd_up (Bd_up B (by omega)) (by omega), ?_, fun q hq => ?_, fun u hu' => ?_, ?_, by rw [mvA_ne (by omega)]; exact L7, by rw [mvA_ne (by omega)]; exact L6⟩
  · unfold Hr; rw [hP]; intro q hq; rw [mvA_ne (by omega)]; exact R q hq
  · rw [hP] at hq; have := P q hq; unfold WfP at this ⊢
    rw [mvA_ne (by omega), mvA_ne (by omega), mvA_ne (by omega), mvA_ne (by omega)]; exact this
  · rw [hT] at hu'; have := T u hu'
    unfold WfT at this ⊢
    rw [mvA_ne (by omega : ¬ ((8 = 9 ∨ 8 = 10) ∧ u = t)), mvA_ne (by omega : ¬ ((6 = 9 ∨ 6 = 10) ∧ u = t)), mvA_ne (by omega : ¬ ((7 = 9 ∨ 7 = 10) ∧ u = t))]
    refine ⟨this.1.imp id (hL _), ?_, this.2.2⟩
    by_cases z : u = t
    · subst z; rw [mvA_9, mvA_10]; exact hx.imp id (fun z => ⟨z.1, hL _ z.2⟩)
    · rw [mvA_ne (by omega), mvA_ne (by omega)]; exact this.2.1.imp id (fun z => ⟨z.1, hL _ z.2⟩)
  · unfold Un; rw [hT]; intro a b ha hb
    by_cases za : a = t
    · by_cases zb : b = t
      · intro _ _ _; omega
      · subst za
        rw [mvA_9, mvA_10, mvA_ne (by omega), mvA_ne (by omega)]
        intro h1 h2 h3; exact absurd h3.symm (hu h1 b hb zb h2)
    · by_cases zb : b = t
      · subst zb
        rw [mvA_9, mvA_10, mvA_ne (by omega), mvA_ne (by omega)]
        intro h1 h2 h3; exact absurd h3 (hu h2 a ha za h1)
      · rw [mvA_ne (by omega), mvA_ne (by omega), mvA_ne (by omega), mvA_ne (by omega)]; exact U a b ha hb
/-- holding: what it finds -/
theorem holdG_spec {A : Vs} {p : Int32} : ∀ d t, (holdG A p d t = -1 ∧ ∀ u, t ≤ u → u < t + d → ¬ (A 9 u = 1 ∧ A 10 u = p)) ∨ ∃ u, t ≤ u ∧ u < t + d ∧ holdG A p d t = nI u ∧ A 9 u = 1 ∧ A 10 u = p ∧ ∀ w, t ≤ w → w < u → ¬ (A 9 w = 1 ∧ A 10 w = p)
  | 0, t => Or.inl ⟨rfl, fun u h1 h2 => by omega⟩
  | d + 1, t => by
    unfold holdG
    by_cases c : A 9 t = 1 ∧ A 10 t = p
    · rw [if_pos c]
      exact Or.inr ⟨t, Nat.le_refl _, by omega, rfl, c.1, c.2, fun w h1 h2 => by omega⟩
    · rw [if_neg c]
      rcases holdG_spec (A := A) (p := p) d (t + 1) with ⟨h1, h2⟩ | ⟨u, h1, h2, h3, h4, h5, h6⟩
      · refine Or.inl ⟨h1, fun u a b => ?_⟩
        by_cases z : u = t
        · subst z; exact c
        · exact h2 u (by omega) (by omega)
      · refine Or.inr ⟨u, by omega, by omega, h3, h4, h5, fun w a b => ?_⟩
        by_cases z : w = t
        · subst z; exact c
        · exact h6 w (by omega) (by omega)
theorem holdF_spec (A : Vs) (p : Int32) : (holdF A p = -1 ∧ ∀ u, u < nT A → ¬ (A 9 u = 1 ∧ A 10 u = p)) ∨ ∃ u, u < nT A ∧ holdF A p = nI u ∧ A 9 u = 1 ∧ A 10 u = p := by
  rcases holdG_spec (A := A) (p := p) (nT A) 0 with ⟨h1, h2⟩ | ⟨u, h1, h2, h3, h4, h5, h6⟩
  · exact Or.inl ⟨h1, fun u hu => h2 u (Nat.zero_le _) (by omega)⟩
  · exact Or.inr ⟨u, by omega, h3, h4, h5⟩
theorem hold_of {A : Vs} (W : Wf A) {p : Int32} {t : Nat} (ht : t < nT A) (h1 : A 9 t = 1) (h2 : A 10 t = p) : holdF A p = nI t := by
  rcases holdF_spec A p with ⟨-, h⟩ | ⟨u, hu, e, h3, h4⟩
  · exact absurd ⟨h1, h2⟩ (h t ht)
  · rw [e, W.2.2.2.2.1 t u ht hu h1 h3 (by rw [h2, h4])]
