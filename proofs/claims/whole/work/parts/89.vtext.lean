/-! ===== a valley's text: what it tells ===== -/
def bnd {α β : Type} (r : Nat × Option α) (k : Nat → α → Nat × Option β) : Nat × Option β := match r with
  | (q, none) => (q, none)
  | (q, some a) => k q a
abbrev isLv (A : Vs) (b : Nat → Nat) (u q : Nat) : Prop := tok b u q = 1 ∧ vl b u q < nP A ∧ A 5 (vl b u q) = 1
/-- a number; one of the living; a number behind a word -/
def num (b : Nat → Nat) (u lo hi q : Nat) : Nat × Option Nat := if isN b u lo hi q then (nx b u q, some (vl b u q)) else (q, none)
def liv (A : Vs) (b : Nat → Nat) (u q : Nat) : Nat × Option Nat := if isLv A b u q then (nx b u q, some (vl b u q)) else (q, none)
def nam (b : Nat → Nat) (u o lo hi q : Nat) : Nat × Option Nat := if tok b u q = o then num b u lo hi (nx b u q) else (q, none)
def addT (A : Vs) (w s o : Int32) : Vs := up (up (up (up (up (up A 6 (nT A) w) 7 (nT A) s) 8 (nT A) o) 9 (nT A) 0) 10 (nT A) (-1)) 0 1 (A 0 1 + 1)
def tyL (A : Vs) (b : Nat → Nat) (u q a g : Nat) (o : Int32) : Nat × Option Vs := (if tok b u q = 7 then nx b u q else q, some (addP A (nI a) (nI g) o (if tok b u q = 7 then 1 else 0)))
def perL (A : Vs) (b : Nat → Nat) (u q : Nat) : Nat × Option Vs := if 7 ≤ nP A then (q, none) else
  bnd (nam b u 4 0 99 (nx b u q)) fun q1 a => bnd (nam b u 5 0 9 q1) fun q2 g =>
    if tok b u q2 = 6 then bnd (liv A b u (nx b u q2)) fun q3 o => tyL A b u q3 a g (nI o) else tyL A b u q2 a g (-1)
def herL (A : Vs) (b : Nat → Nat) (u q : Nat) : Nat × Option Vs :=
  bnd (liv A b u (nx b u q)) fun q1 p => if vl b u q1 = p then (q1, none) else bnd (liv A b u q1) fun q2 o => (q2, some (up A 3 p (nI o)))
def plcL (A : Vs) (b : Nat → Nat) (u q t : Nat) : Nat × Option Vs :=
  if tok b u q = 12 then (if holdF A (nI (vl b u (nx b u q))) = -1 then bnd (liv A b u (nx b u q)) fun q1 p => (q1, some (mvA A t 1 (nI p))) else (nx b u q, none))
  else if tok b u q = 13 then bnd (liv A b u (nx b u q)) fun q1 p => (q1, some (mvA A t 2 (nI p)))
  else (q, some A)
def thgL (A : Vs) (b : Nat → Nat) (u q : Nat) : Nat × Option Vs := if 10 ≤ nT A then (q, none) else
  bnd (nam b u 9 0 99 (nx b u q)) fun q1 w => bnd (nam b u 10 1 12 q1) fun q2 s =>
    if tok b u q2 = 11 then bnd (liv A b u (nx b u q2)) fun q3 o => plcL (addT A (nI w) (nI s) (nI o)) b u q3 (nT A) else (q2, none)
def crnL (A : Vs) (b : Nat → Nat) (u q : Nat) : Nat × Option Vs := if 10 ≤ nT A then (q, none) else
  bnd (nam b u 9 0 99 (nx b u q)) fun q1 w => bnd (nam b u 10 1 12 q1) fun q2 s => (q2, some (addT A (nI w) (nI s) (-1)))
def setL (A : Vs) (b : Nat → Nat) (u q j hi : Nat) : Nat × Option Vs := bnd (num b u 0 hi (nx b u q)) fun q1 a => (q1, some (up A 0 j (nI a)))
def lineV (A : Vs) (b : Nat → Nat) (u q : Nat) : Nat × Option Vs :=
  if tok b u q = 3 then perL A b u q else if tok b u q = 6 then herL A b u q else if tok b u q = 8 then thgL A b u q else if tok b u q = 14 then crnL A b u q
  else if tok b u q = 15 then setL A b u q 3 100 else if tok b u q = 16 then setL A b u q 4 6 else if tok b u q = 17 then setL A b u q 2 999 else (q, none)
def lnsV (b : Nat → Nat) (u : Nat) : Nat → Vs → Nat → Nat × Option Vs
  | 0, _, q => (q, none)
  | d + 1, A, q => bnd (lineV A b u q) fun q1 A1 => if tok b u q1 = 0 then (q1, some A1) else if tok b u q1 = 29 then lnsV b u d A1 (nx b u q1) else (q1, none)
def valV (A : Vs) (b : Nat → Nat) (u : Nat) : Nat × Option Vs := if tok b u (sk b u 0) = 0 then (sk b u 0, some A) else lnsV b u 14 A (sk b u 0)
/-! it stays right -/
theorem num_c {b : Nat → Nat} {u lo hi q q1 : Nat} {w : Option Nat} (e : num b u lo hi q = (q1, w)) : (isN b u lo hi q ∧ q1 = nx b u q ∧ w = some (vl b u q)) ∨ (¬ isN b u lo hi q ∧ q1 = q ∧ w = none) := by
  unfold num at e
  split at e
  · rename_i c; exact Or.inl ⟨c, (Prod.mk.inj e).1.symm, (Prod.mk.inj e).2.symm⟩
  · rename_i c; exact Or.inr ⟨c, (Prod.mk.inj e).1.symm, (Prod.mk.inj e).2.symm⟩
theorem liv_c {A : Vs} {b : Nat → Nat} {u q q1 : Nat} {w : Option Nat} (e : liv A b u q = (q1, w)) : (isLv A b u q ∧ q1 = nx b u q ∧ w = some (vl b u q)) ∨ (¬ isLv A b u q ∧ q1 = q ∧ w = none) := by
  unfold liv at e
  split at e
  · rename_i c; exact Or.inl ⟨c, (Prod.mk.inj e).1.symm, (Prod.mk.inj e).2.symm⟩
  · rename_i c; exact Or.inr ⟨c, (Prod.mk.inj e).1.symm, (Prod.mk.inj e).2.symm⟩
theorem num_b {b : Nat → Nat} {u lo hi q q1 a : Nat} (e : num b u lo hi q = (q1, some a)) : lo ≤ a ∧ a ≤ hi := by
  rcases num_c e with ⟨c, -, z⟩ | ⟨-, -, z⟩
  · cases z; exact c.2
  · cases z
theorem nam_b {b : Nat → Nat} {u o lo hi q q1 a : Nat} (e : nam b u o lo hi q = (q1, some a)) : lo ≤ a ∧ a ≤ hi := by
  unfold nam at e
  split at e
  · exact num_b e
  · cases (Prod.mk.inj e).2
theorem liv_b {A : Vs} {b : Nat → Nat} {u q q1 a : Nat} (e : liv A b u q = (q1, some a)) : a < nP A ∧ A 5 a = 1 := by
  rcases liv_c e with ⟨c, -, z⟩ | ⟨-, -, z⟩
  · cases z; exact c.2
  · cases z
theorem bnd_s {α β : Type} {r : Nat × Option α} {k : Nat → α → Nat × Option β} {q : Nat} {w : β} (e : bnd r k = (q, some w)) : ∃ q1 a, r = (q1, some a) ∧ k q1 a = (q, some w) := by
  obtain ⟨q1, _ | a⟩ := r
  · cases (Prod.mk.inj e).2
  · exact ⟨q1, a, rfl, e⟩
theorem nT_addT {A : Vs} (B : Bd A) {w s o : Int32} : nT (addT A w s o) = nT A + 1 ∧ nP (addT A w s o) = nP A := by
  unfold addT
  refine ⟨?_, ?_⟩
  · unfold nT
    rw [up_same, B.2.2.1, nI_1, nI_clamp (by have := B.2.2.2; omega), nI_clamp (by have := B.2.2.2; omega)]
  · rw [nP_up (by omega), nP_up (by omega), nP_up (by omega), nP_up (by omega), nP_up (by omega), nP_up (by omega)]
theorem addT_lo {A : Vs} {w s o : Int32} {k j : Nat} (h : ¬ (k = 0 ∧ j = 1)) (h2 : j ≠ nT A ∨ k < 6 ∨ 10 < k) : addT A w s o k j = A k j := by
  unfold addT
  rw [up_ne (by omega), up_ne (by omega), up_ne (by omega), up_ne (by omega), up_ne (by omega), up_ne (by omega)]
theorem addT_at {A : Vs} {w s o : Int32} : addT A w s o 6 (nT A) = w ∧ addT A w s o 7 (nT A) = s ∧ addT A w s o 8 (nT A) = o ∧ addT A w s o 9 (nT A) = 0 ∧ addT A w s o 10 (nT A) = -1 := by
  unfold addT
  refine ⟨?_, ?_, ?_, ?_, ?_⟩
  · rw [up_ne (by omega), up_ne (by omega), up_ne (by omega), up_ne (by omega), up_ne (by omega), up_same]
  · rw [up_ne (by omega), up_ne (by omega), up_ne (by omega), up_ne (by omega), up_same]
  · rw [up_ne (by omega), up_ne (by omega), up_ne (by omega), up_same]
  · rw [up_ne (by omega), up_ne (by omega), up_same]
  · rw [up_ne (by omega), up_same]
theorem Wf.thing {A : Vs} (F : Wf A) (h : nT A < 10) {w s o : Int32} (hw : Rg w 99) (hs : Rg s 12) (ho : o = -1 ∨ Lv A o) : Wf (addT A w s o) := by
  obtain ⟨B, R, P, T, U, L7, L6⟩ := F
  obtain ⟨eT, eP⟩ := nT_addT B (w := w) (s := s) (o := o)
  have hL : ∀ y, Lv A y → Lv (addT A w s o) y := fun y z => z.congr eP (fun q _ => addT_lo (by omega) (by omega))
  have lo : ∀ {k j : Nat}, ¬ (k = 0 ∧ j = 1) → j ≠ nT A ∨ k < 6 ∨ 10 < k → addT A w s o k j = A k j := fun h1 h2 => addT_lo h1 h2
  obtain ⟨n6, n7, n8, n9, n10⟩ := addT_at (A := A) (w := w) (s := s) (o := o)
  refine ⟨⟨?_, by rw [eP]; exact B.2.1, ?_, by omega⟩, ?_, fun p hp => ?_, fun t ht => ?_, ?_, by rw [lo (by omega) (by omega)]; exact L7, by rw [lo (by omega) (by omega)]; exact L6⟩
  · rw [eP, lo (by omega) (by omega)]; exact B.1
  · rw [eT]; unfold addT; rw [up_same, B.2.2.1, nI_1]
  · unfold Hr; rw [eP]; intro p hp; rw [lo (by omega) (by omega)]; exact R p hp
  · rw [eP] at hp
    unfold WfP
    rw [lo (by omega) (by omega), lo (by omega) (by omega), lo (by omega) (by omega), lo (by omega) (by omega)]; exact P p hp
  · rw [eT] at ht
    unfold WfT
    by_cases z : t = nT A
    · subst z; rw [n6, n7, n8, n9, n10]; exact ⟨ho.imp id (hL _), Or.inl ⟨rfl, rfl⟩, hw, hs⟩
    · have := T t (by omega)
      unfold WfT at this
      rw [lo (by omega) (by omega), lo (by omega) (by omega), lo (by omega) (by omega), lo (by omega) (by omega), lo (by omega) (by omega)]
      exact ⟨this.1.imp id (hL _), this.2.1.imp id (fun z => ⟨z.1, hL _ z.2⟩), this.2.2⟩
  · unfold Un; rw [eT]; intro t u ht hu h1 h2
    by_cases z : t = nT A
    · subst z; rw [n9] at h1; exact absurd h1 (by decide)
    · by_cases y : u = nT A
      · subst y; rw [n9] at h2; exact absurd h2 (by decide)
      · rw [lo (by omega) (by omega)] at h1 h2
        rw [lo (by omega) (by omega), lo (by omega) (by omega)]
        exact U t u (by omega) (by omega) h1 h2
section VWF
variable {A A' : Vs} {b : Nat → Nat} {u q q' : Nat}
theorem tyL_wf (F : Wf A) (h7 : ¬ 7 ≤ nP A) {a g : Nat} {o : Int32} (ha : a ≤ 99) (hg : g ≤ 9) (ho : o = -1 ∨ ∃ q, q < nP A ∧ o = nI q) (e : tyL A b u q a g o = (q', some A')) : Wf A' := by
  have := Option.some.inj (Prod.mk.inj e).2
  rw [← this]
  refine F.born (by omega) ⟨a, ha, rfl⟩ ⟨g, hg, rfl⟩ ho ?_
  by_cases c : tok b u q = 7
  · rw [if_pos c]; exact Or.inr rfl
  · rw [if_neg c]; exact Or.inl rfl
theorem perL_wf (F : Wf A) (e : perL A b u q = (q', some A')) : Wf A' := by
  unfold perL at e
  split at e
  · cases (Prod.mk.inj e).2
  · rename_i h7
    obtain ⟨q1, a, e1, e⟩ := bnd_s e
    obtain ⟨q2, g, e2, e⟩ := bnd_s e
    split at e
    · obtain ⟨q3, o, e3, e⟩ := bnd_s e
      exact tyL_wf F h7 (nam_b e1).2 (nam_b e2).2 (Or.inr ⟨o, (liv_b e3).1, rfl⟩) e
    · exact tyL_wf F h7 (nam_b e1).2 (nam_b e2).2 (Or.inl rfl) e
theorem herL_wf (F : Wf A) (e : herL A b u q = (q', some A')) : Wf A' := by
  unfold herL at e
  obtain ⟨q1, p, e1, e⟩ := bnd_s e
  split at e
  · cases (Prod.mk.inj e).2
  · obtain ⟨q2, o, e2, e⟩ := bnd_s e
    rw [← Option.some.inj (Prod.mk.inj e).2]
    exact F.upP (by omega) (fun z => by omega) (fun z => by omega) (fun _ => Or.inr ⟨o, (liv_b e2).1, rfl⟩) (fun z => by omega)
theorem plcL_wf (F : Wf A) {t : Nat} (e : plcL A b u q t = (q', some A')) : Wf A' := by
  unfold plcL at e
  split at e
  · split at e
    · rename_i c
      obtain ⟨q1, p, e1, e⟩ := bnd_s e
      rw [← Option.some.inj (Prod.mk.inj e).2]
      have pv : p = vl b u (nx b u q) := by
        rcases liv_c e1 with ⟨-, -, z⟩ | ⟨-, -, z⟩
        · cases z; rfl
        · cases z
      refine F.mv (Or.inr ⟨Or.inl rfl, p, (liv_b e1).1, rfl, (liv_b e1).2⟩) (fun _ v hv _ h9 h10 => ?_)
      rcases holdF_spec A (nI (vl b u (nx b u q))) with ⟨-, z⟩ | ⟨k, -, z, -, -⟩
      · exact z v hv ⟨h9, by rw [h10, pv]⟩
      · rw [c] at z
        rcases holdF_spec A (nI (vl b u (nx b u q))) with ⟨-, z⟩ | ⟨k2, k3, z2, -, -⟩
        · exact z v hv ⟨h9, by rw [h10, pv]⟩
        · rw [c] at z2; exact m1_ne (by have := F.1.2.2.2; omega) z2.symm
    · cases (Prod.mk.inj e).2
  · split at e
    · obtain ⟨q1, p, e1, e⟩ := bnd_s e
      rw [← Option.some.inj (Prod.mk.inj e).2]
      exact F.mv (Or.inr ⟨Or.inr rfl, p, (liv_b e1).1, rfl, (liv_b e1).2⟩) (fun z => absurd z (by decide))
    · rw [← Option.some.inj (Prod.mk.inj e).2]; exact F
theorem thgL_wf (F : Wf A) (e : thgL A b u q = (q', some A')) : Wf A' := by
  unfold thgL at e
  split at e
  · cases (Prod.mk.inj e).2
  · rename_i h7
    obtain ⟨q1, w, e1, e⟩ := bnd_s e
    obtain ⟨q2, s, e2, e⟩ := bnd_s e
    split at e
    · obtain ⟨q3, o, e3, e⟩ := bnd_s e
      exact plcL_wf (F.thing (by omega) ⟨w, (nam_b e1).2, rfl⟩ ⟨s, (nam_b e2).2, rfl⟩ (Or.inr ⟨o, (liv_b e3).1, rfl, (liv_b e3).2⟩)) e
    · cases (Prod.mk.inj e).2
theorem crnL_wf (F : Wf A) (e : crnL A b u q = (q', some A')) : Wf A' := by
  unfold crnL at e
  split at e
  · cases (Prod.mk.inj e).2
  · rename_i h7
    obtain ⟨q1, w, e1, e⟩ := bnd_s e
    obtain ⟨q2, s, e2, e⟩ := bnd_s e
    rw [← Option.some.inj (Prod.mk.inj e).2]
    exact F.thing (by omega) ⟨w, (nam_b e1).2, rfl⟩ ⟨s, (nam_b e2).2, rfl⟩ (Or.inl rfl)
theorem setL_wf (F : Wf A) {j hi : Nat} (hj : 2 ≤ j ∧ j ≤ 5) (e : setL A b u q j hi = (q', some A')) : Wf A' := by
  unfold setL at e
  obtain ⟨q1, w, e1, e⟩ := bnd_s e
  rw [← Option.some.inj (Prod.mk.inj e).2]
  exact F.up0 hj _
theorem lineV_wf (F : Wf A) (e : lineV A b u q = (q', some A')) : Wf A' := by
  unfold lineV at e
  split at e
  · exact perL_wf F e
  · split at e
    · exact herL_wf F e
    · split at e
      · exact thgL_wf F e
      · split at e
        · exact crnL_wf F e
        · split at e
          · exact setL_wf F (by omega) e
          · split at e
            · exact setL_wf F (by omega) e
            · split at e
              · exact setL_wf F (by omega) e
              · cases (Prod.mk.inj e).2
theorem lnsV_wf : ∀ d {A q}, Wf A → lnsV b u d A q = (q', some A') → Wf A'
  | 0, A, q, F, e => by cases (Prod.mk.inj e).2
  | d + 1, A, q, F, e => by
    unfold lnsV at e
    obtain ⟨q1, A1, e1, e⟩ := bnd_s e
    split at e
    · rw [← Option.some.inj (Prod.mk.inj e).2]; exact lineV_wf F e1
    · split at e
      · exact lnsV_wf d (lineV_wf F e1) e
      · cases (Prod.mk.inj e).2
theorem valV_wf (F : Wf A) (e : valV A b u = (q', some A')) : Wf A' := by
  unfold valV at e
  split at e
  · rw [← Option.some.inj (Prod.mk.inj e).2]; exact F
  · exact lnsV_wf 14 F e
end VWF
