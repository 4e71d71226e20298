/-! ===== the abstract valley, and where it lies ===== -/
/-- rows: 0 people, things, night, death, witnesses, seed, texts, logged; 1 age 2 grip 3 heir 4 tied 5 living; 6 worth 7 size 8 owner 9 place 10 whose; 20.. the log, the latest first -/
abbrev Vs : Type := Nat → Nat → Int32
def up (A : Vs) (k j : Nat) (x : Int32) : Vs := fun k' j' => if k' = k ∧ j' = j then x else A k' j'
theorem up_same {A : Vs} {k j : Nat} {x : Int32} : up A k j x k j = x := by simp [up]
theorem up_ne {A : Vs} {k j k' j' : Nat} {x : Int32} (h : ¬ (k' = k ∧ j' = j)) : up A k j x k' j' = A k' j' := by simp only [up]; rw [if_neg h]
theorem for_up {Q : Nat → Prop} {n : Nat} (hend : Q n) (hstep : ∀ t, t < n → Q (t + 1) → Q t) : ∀ t, t ≤ n → Q t := by
  intro t ht
  obtain ⟨k, rfl⟩ : ∃ k, n = t + k := ⟨n - t, by omega⟩
  clear ht
  induction k generalizing t with
  | zero => exact hend
  | succ k ih =>
    refine hstep t (by omega) (ih (t + 1) ?_ ?_)
    · rw [show t + 1 + k = t + (k + 1) by omega]; exact hend
    · intro t' h'; exact hstep t' (by omega)
/-- a ring of rows, read from the latest on -/
def ringAt (nx : Nat) (ago : Nat) : Nat := (nx + 59 - ago) % 60
def nP (A : Vs) : Nat := (A 0 0).toNatClampNeg
def nT (A : Vs) : Nat := (A 0 1).toNatClampNeg
def Bd (A : Vs) : Prop := A 0 0 = nI (nP A) ∧ nP A ≤ 7 ∧ A 0 1 = nI (nT A) ∧ nT A ≤ 10
/-- where the rows lie: the cell, the place in it -/
def vc (k : Nat) : Nat := if k = 0 then 0 else if k ≤ 3 then k else k - 2
def vj (k j : Nat) : Nat := if k = 0 then (match j with | 0 => 0 | 1 => 6 | 2 => 12 | 3 => 13 | 4 => 14 | 5 => 15 | _ => 16) else j
def vdom (k j : Nat) : Prop := (k = 0 ∧ j < 7) ∨ (1 ≤ k ∧ k ≤ 3 ∧ j < 7) ∨ (6 ≤ k ∧ k ≤ 10 ∧ j < 10)
def VSh (h : Hp) (v la : Nat) : Prop :=
  (h.1 v = (8, 19) ∧ h.2.1 v 1 = .ref (v + 1) ∧ h.2.1 v 2 = .ref (v + 2) ∧ h.2.1 v 3 = .ref (v + 3) ∧ h.2.1 v 7 = .ref (v + 4) ∧ h.2.1 v 8 = .ref (v + 5) ∧ h.2.1 v 9 = .ref (v + 6) ∧ h.2.1 v 10 = .ref (v + 7) ∧ h.2.1 v 11 = .ref (v + 8) ∧ h.2.1 v 17 = .ref la ∧ h.2.1 v 18 = .ref (v + 9)) ∧
  (h.1 (v + 1) = (101, 7) ∧ h.1 (v + 2) = (101, 7) ∧ h.1 (v + 3) = (101, 7) ∧ h.1 (v + 4) = (101, 10) ∧ h.1 (v + 5) = (101, 10) ∧ h.1 (v + 6) = (101, 10) ∧ h.1 (v + 7) = (101, 10) ∧ h.1 (v + 8) = (101, 10) ∧ h.1 (v + 9) = (3, 3) ∧ h.1 (v + 10) = (101, 300))
/-- a log at g -/
def LogAt (h : Hp) (g : Nat) (A : Vs) : Prop :=
  (h.1 g = (3, 3) ∧ h.1 (g + 1) = (101, 300) ∧ h.2.1 g 0 = .ref (g + 1)) ∧ h.2.1 g 2 = .int (A 0 7) ∧ (∃ n, n ≤ 60 ∧ A 0 7 = nI n) ∧ (∀ j, j < 300 → ∃ x, h.2.1 (g + 1) j = .int x) ∧ ∃ nx, nx < 60 ∧ h.2.1 g 1 = .int (nI nx) ∧ ∀ ago w, nI ago < A 0 7 → ago < 60 → w < 5 → h.2.1 (g + 1) (ringAt nx ago * 5 + w) = .int (A (20 + w) ago)
/-- the set of people of whom a row is 1 -/
def flagF (A : Vs) (k : Nat) : Int32 := lp (fun p b => if A k p = 1 then b ||| sh1 p else b) (nP A) 0
def VlyAt (h : Hp) (v : Nat) (A : Vs) (la : Nat) : Prop :=
  VSh h v la ∧ (∀ k j, vdom k j → h.2.1 (v + vc k) (vj k j) = .int (A k j)) ∧ (h.2.1 v 4 = .int (flagF A 4) ∧ h.2.1 v 5 = .int (flagF A 5)) ∧ LogAt h (v + 9) A
theorem aI_of {h : Hp} {kd a n i : Nat} {x : Int32} (hk : h.1 a = (kd, n)) (hi : i < n) (hn : n < 2 ^ 31) (hx : h.2.1 a i = .int x) : aI h kd a (nI i) x := ⟨n, hk, vp_in_nI hi hn, by rw [nI_clamp (by omega)]; exact hx⟩
theorem aW_of {G : Gx} {h : Hp} {kd a n i : Nat} (ha : G.n0 ≤ a) (hk : h.1 a = (kd, n)) (hi : i < n) (hn : n < 2 ^ 31) : aW G h kd a (nI i) := ⟨ha, n, hk, vp_in_nI hi hn⟩
section VLY
variable {h : Hp} {v : Nat} {A : Vs} {la : Nat}
theorem VlyAt.kd (V : VlyAt h v A la) : (h.1 v).1 = 8 := by rw [V.1.1.1]
theorem VlyAt.r1 (V : VlyAt h v A la) : fR h 8 v 1 (v + 1) := ⟨V.kd, V.1.1.2.1⟩
theorem VlyAt.r2 (V : VlyAt h v A la) : fR h 8 v 2 (v + 2) := ⟨V.kd, V.1.1.2.2.1⟩
theorem VlyAt.r3 (V : VlyAt h v A la) : fR h 8 v 3 (v + 3) := ⟨V.kd, V.1.1.2.2.2.1⟩
theorem VlyAt.r7 (V : VlyAt h v A la) : fR h 8 v 7 (v + 4) := ⟨V.kd, V.1.1.2.2.2.2.1⟩
theorem VlyAt.r8 (V : VlyAt h v A la) : fR h 8 v 8 (v + 5) := ⟨V.kd, V.1.1.2.2.2.2.2.1⟩
theorem VlyAt.r9 (V : VlyAt h v A la) : fR h 8 v 9 (v + 6) := ⟨V.kd, V.1.1.2.2.2.2.2.2.1⟩
theorem VlyAt.r10 (V : VlyAt h v A la) : fR h 8 v 10 (v + 7) := ⟨V.kd, V.1.1.2.2.2.2.2.2.2.1⟩
theorem VlyAt.r11 (V : VlyAt h v A la) : fR h 8 v 11 (v + 8) := ⟨V.kd, V.1.1.2.2.2.2.2.2.2.2.1⟩
theorem VlyAt.r17 (V : VlyAt h v A la) : fR h 8 v 17 (la) := ⟨V.kd, V.1.1.2.2.2.2.2.2.2.2.2.1⟩
theorem VlyAt.r18 (V : VlyAt h v A la) : fR h 8 v 18 (v + 9) := ⟨V.kd, V.1.1.2.2.2.2.2.2.2.2.2.2⟩
theorem VlyAt.f0 (V : VlyAt h v A la) : fI h 8 v 0 (A 0 0) := ⟨V.kd, V.2.1 0 0 (Or.inl ⟨rfl, by decide⟩)⟩
theorem VlyAt.f6 (V : VlyAt h v A la) : fI h 8 v 6 (A 0 1) := ⟨V.kd, V.2.1 0 1 (Or.inl ⟨rfl, by decide⟩)⟩
theorem VlyAt.f12 (V : VlyAt h v A la) : fI h 8 v 12 (A 0 2) := ⟨V.kd, V.2.1 0 2 (Or.inl ⟨rfl, by decide⟩)⟩
theorem VlyAt.f13 (V : VlyAt h v A la) : fI h 8 v 13 (A 0 3) := ⟨V.kd, V.2.1 0 3 (Or.inl ⟨rfl, by decide⟩)⟩
theorem VlyAt.f14 (V : VlyAt h v A la) : fI h 8 v 14 (A 0 4) := ⟨V.kd, V.2.1 0 4 (Or.inl ⟨rfl, by decide⟩)⟩
theorem VlyAt.f15 (V : VlyAt h v A la) : fI h 8 v 15 (A 0 5) := ⟨V.kd, V.2.1 0 5 (Or.inl ⟨rfl, by decide⟩)⟩
theorem VlyAt.f16 (V : VlyAt h v A la) : fI h 8 v 16 (A 0 6) := ⟨V.kd, V.2.1 0 6 (Or.inl ⟨rfl, by decide⟩)⟩
theorem VlyAt.f4 (V : VlyAt h v A la) : fI h 8 v 4 (flagF A 4) := ⟨V.kd, V.2.2.1.1⟩
theorem VlyAt.f5 (V : VlyAt h v A la) : fI h 8 v 5 (flagF A 5) := ⟨V.kd, V.2.2.1.2⟩
theorem VlyAt.a1 (V : VlyAt h v A la) {p : Nat} (hp : p < 7) : aI h 101 (v + 1) (nI p) (A 1 p) := aI_of V.1.2.1 hp (by decide) (V.2.1 1 p (Or.inr (Or.inl ⟨by decide, by decide, hp⟩)))
theorem VlyAt.w1 {G : Gx} (hv : G.n0 ≤ v) (V : VlyAt h v A la) {p : Nat} (hp : p < 7) : aW G h 101 (v + 1) (nI p) := aW_of (by omega) V.1.2.1 hp (by decide)
theorem VlyAt.a2 (V : VlyAt h v A la) {p : Nat} (hp : p < 7) : aI h 101 (v + 2) (nI p) (A 2 p) := aI_of V.1.2.2.1 hp (by decide) (V.2.1 2 p (Or.inr (Or.inl ⟨by decide, by decide, hp⟩)))
theorem VlyAt.w2 {G : Gx} (hv : G.n0 ≤ v) (V : VlyAt h v A la) {p : Nat} (hp : p < 7) : aW G h 101 (v + 2) (nI p) := aW_of (by omega) V.1.2.2.1 hp (by decide)
theorem VlyAt.a3 (V : VlyAt h v A la) {p : Nat} (hp : p < 7) : aI h 101 (v + 3) (nI p) (A 3 p) := aI_of V.1.2.2.2.1 hp (by decide) (V.2.1 3 p (Or.inr (Or.inl ⟨by decide, by decide, hp⟩)))
theorem VlyAt.w3 {G : Gx} (hv : G.n0 ≤ v) (V : VlyAt h v A la) {p : Nat} (hp : p < 7) : aW G h 101 (v + 3) (nI p) := aW_of (by omega) V.1.2.2.2.1 hp (by decide)
theorem VlyAt.a6 (V : VlyAt h v A la) {t : Nat} (ht : t < 10) : aI h 101 (v + 4) (nI t) (A 6 t) := aI_of V.1.2.2.2.2.1 ht (by decide) (V.2.1 6 t (Or.inr (Or.inr ⟨by decide, by decide, ht⟩)))
theorem VlyAt.w6 {G : Gx} (hv : G.n0 ≤ v) (V : VlyAt h v A la) {t : Nat} (ht : t < 10) : aW G h 101 (v + 4) (nI t) := aW_of (by omega) V.1.2.2.2.2.1 ht (by decide)
theorem VlyAt.a7 (V : VlyAt h v A la) {t : Nat} (ht : t < 10) : aI h 101 (v + 5) (nI t) (A 7 t) := aI_of V.1.2.2.2.2.2.1 ht (by decide) (V.2.1 7 t (Or.inr (Or.inr ⟨by decide, by decide, ht⟩)))
theorem VlyAt.w7 {G : Gx} (hv : G.n0 ≤ v) (V : VlyAt h v A la) {t : Nat} (ht : t < 10) : aW G h 101 (v + 5) (nI t) := aW_of (by omega) V.1.2.2.2.2.2.1 ht (by decide)
theorem VlyAt.a8 (V : VlyAt h v A la) {t : Nat} (ht : t < 10) : aI h 101 (v + 6) (nI t) (A 8 t) := aI_of V.1.2.2.2.2.2.2.1 ht (by decide) (V.2.1 8 t (Or.inr (Or.inr ⟨by decide, by decide, ht⟩)))
theorem VlyAt.w8 {G : Gx} (hv : G.n0 ≤ v) (V : VlyAt h v A la) {t : Nat} (ht : t < 10) : aW G h 101 (v + 6) (nI t) := aW_of (by omega) V.1.2.2.2.2.2.2.1 ht (by decide)
theorem VlyAt.a9 (V : VlyAt h v A la) {t : Nat} (ht : t < 10) : aI h 101 (v + 7) (nI t) (A 9 t) := aI_of V.1.2.2.2.2.2.2.2.1 ht (by decide) (V.2.1 9 t (Or.inr (Or.inr ⟨by decide, by decide, ht⟩)))
theorem VlyAt.w9 {G : Gx} (hv : G.n0 ≤ v) (V : VlyAt h v A la) {t : Nat} (ht : t < 10) : aW G h 101 (v + 7) (nI t) := aW_of (by omega) V.1.2.2.2.2.2.2.2.1 ht (by decide)
theorem VlyAt.a10 (V : VlyAt h v A la) {t : Nat} (ht : t < 10) : aI h 101 (v + 8) (nI t) (A 10 t) := aI_of V.1.2.2.2.2.2.2.2.2.1 ht (by decide) (V.2.1 10 t (Or.inr (Or.inr ⟨by decide, by decide, ht⟩)))
theorem VlyAt.w10 {G : Gx} (hv : G.n0 ≤ v) (V : VlyAt h v A la) {t : Nat} (ht : t < 10) : aW G h 101 (v + 8) (nI t) := aW_of (by omega) V.1.2.2.2.2.2.2.2.2.1 ht (by decide)
theorem vinj {k j k' j' : Nat} (h1 : vdom k j) (h2 : vdom k' j') (e1 : vc k' = vc k) (e2 : vj k' j' = vj k j) : k' = k ∧ j' = j := by
  have f0 : ∀ j, j < 7 → (vj 0 j = 0 ∧ j = 0) ∨ (vj 0 j = 6 ∧ j = 1) ∨ (vj 0 j = 12 ∧ j = 2) ∨ (vj 0 j = 13 ∧ j = 3) ∨ (vj 0 j = 14 ∧ j = 4) ∨ (vj 0 j = 15 ∧ j = 5) ∨ (vj 0 j = 16 ∧ j = 6) := by
    intro j hj
    have : j = 0 ∨ j = 1 ∨ j = 2 ∨ j = 3 ∨ j = 4 ∨ j = 5 ∨ j = 6 := by omega
    rcases this with rfl | rfl | rfl | rfl | rfl | rfl | rfl <;> simp [vj]
  have g : ∀ k j, vdom k j → (k = 0 ∧ vc k = 0) ∨ (1 ≤ k ∧ k ≤ 3 ∧ vc k = k ∧ vj k j = j) ∨ (6 ≤ k ∧ k ≤ 10 ∧ vc k = k - 2 ∧ vj k j = j) := by
    intro k j hd
    rcases hd with ⟨rfl, -⟩ | ⟨a, b, -⟩ | ⟨a, b, -⟩
    · exact Or.inl ⟨rfl, rfl⟩
    · exact Or.inr (Or.inl ⟨a, b, by unfold vc; rw [if_neg (by omega), if_pos b], by unfold vj; rw [if_neg (by omega)]⟩)
    · exact Or.inr (Or.inr ⟨a, b, by unfold vc; rw [if_neg (by omega), if_neg (by omega)], by unfold vj; rw [if_neg (by omega)]⟩)
  rcases g k j h1 with ⟨rfl, a1⟩ | ⟨a1, a2, a3, a4⟩ | ⟨a1, a2, a3, a4⟩ <;> rcases g k' j' h2 with ⟨rfl, b1⟩ | ⟨b1, b2, b3, b4⟩ | ⟨b1, b2, b3, b4⟩
  · have hj : j < 7 := by rcases h1 with ⟨-, q⟩ | ⟨q, -, -⟩ | ⟨q, -, -⟩ <;> omega
    have hj' : j' < 7 := by rcases h2 with ⟨-, q⟩ | ⟨q, -, -⟩ | ⟨q, -, -⟩ <;> omega
    have x1 := f0 j hj
    have x2 := f0 j' hj'
    omega
  all_goals omega
/-- the places of rows are none of the references', nor of the bits' -/
theorem vplace {k j : Nat} (hd : vdom k j) : vc k < 9 ∧ (vc k = 0 → vj k j ≠ 1 ∧ vj k j ≠ 2 ∧ vj k j ≠ 3 ∧ vj k j ≠ 4 ∧ vj k j ≠ 5 ∧ vj k j ≠ 7 ∧ vj k j ≠ 8 ∧ vj k j ≠ 9 ∧ vj k j ≠ 10 ∧ vj k j ≠ 11 ∧ vj k j ≠ 17 ∧ vj k j ≠ 18) := by
  rcases hd with ⟨rfl, hj⟩ | ⟨a, b, -⟩ | ⟨a, b, -⟩
  · have : j = 0 ∨ j = 1 ∨ j = 2 ∨ j = 3 ∨ j = 4 ∨ j = 5 ∨ j = 6 := by omega
    rcases this with rfl | rfl | rfl | rfl | rfl | rfl | rfl <;> decide
  · have e : vc k = k := by unfold vc; rw [if_neg (by omega), if_pos b]
    exact ⟨by omega, fun z => by omega⟩
  · have e : vc k = k - 2 := by unfold vc; rw [if_neg (by omega), if_neg (by omega)]
    exact ⟨by omega, fun z => by omega⟩
theorem hs_ne {a k b j : Nat} {x : Value} (hn : ¬ (b = a ∧ j = k)) : (hset h a k x).2.1 b j = h.2.1 b j := by show (if b = a ∧ j = k then x else h.2.1 b j) = _; rw [if_neg hn]
theorem hs_eq {a k : Nat} {x : Value} : (hset h a k x).2.1 a k = x := by show (if a = a ∧ k = k then x else h.2.1 a k) = _; rw [if_pos ⟨rfl, rfl⟩]
/-- a row is written -/
theorem VlyAt.set (V : VlyAt h v A la) {k j : Nat} (hd : vdom k j) (h00 : ¬ (k = 0 ∧ j = 0)) (x : Int32) : VlyAt (hset h (v + vc k) (vj k j) (.int x)) v (up A k j x) la := by
  obtain ⟨p1, p2⟩ := vplace hd
  have n0 : ∀ b i, (b = v → vj k j ≠ i ∨ vc k ≠ 0) → (v < b → v + 9 ≤ b) → v ≤ b → (hset h (v + vc k) (vj k j) (.int x)).2.1 b i = h.2.1 b i := by
    intro b i h1 h2 h3
    refine hs_ne (fun z => ?_)
    by_cases hb : b = v
    · rcases h1 hb with q | q
      · exact q z.2.symm
      · exact q (by omega)
    · have := h2 (by omega); omega
  obtain ⟨⟨S1, S2⟩, R, ⟨T1, T2⟩, ⟨L0, L1, L2, L3, nx, L4, L5, L6⟩⟩ := V
  have nz : ∀ {i : Nat}, (vc k = 0 → vj k j ≠ i) → (hset h (v + vc k) (vj k j) (.int x)).2.1 v i = h.2.1 v i := fun {i} hi => n0 v i (fun _ => by by_cases q : vc k = 0; exact Or.inl (hi q); exact Or.inr q) (fun z => absurd z (Nat.lt_irrefl v)) (Nat.le_refl v)
  have n9 : ∀ b i, v + 9 ≤ b → (hset h (v + vc k) (vj k j) (.int x)).2.1 b i = h.2.1 b i := fun b i hb => n0 b i (fun z => by omega) (fun _ => hb) (by omega)
  have u7 : up A k j x 0 7 = A 0 7 := up_ne (fun z => by
    obtain ⟨rfl, rfl⟩ := z
    rcases hd with ⟨-, q⟩ | ⟨q, -, -⟩ | ⟨q, -, -⟩ <;> omega)
  have u20 : ∀ w a, up A k j x (20 + w) a = A (20 + w) a := fun w a => up_ne (fun z => by
    rcases hd with ⟨q, -⟩ | ⟨-, q, -⟩ | ⟨-, q, -⟩ <;> omega)
  have uP : nP (up A k j x) = nP A := by unfold nP; rw [up_ne (fun z => h00 ⟨z.1.symm, z.2.symm⟩)]
  have uf : ∀ f, f = 4 ∨ f = 5 → flagF (up A k j x) f = flagF A f := by
    intro f hf
    unfold flagF
    rw [uP]
    refine lp_congr (fun p _ b => ?_) 0
    rw [up_ne (fun z => by rcases hd with ⟨q, -⟩ | ⟨q, q', -⟩ | ⟨q, -, -⟩ <;> omega)]
  refine ⟨⟨⟨S1.1, ?_, ?_, ?_, ?_, ?_, ?_, ?_, ?_, ?_, ?_⟩, S2⟩, fun k' j' hd' => ?_, ⟨?_, ?_⟩, ⟨⟨L0.1, L0.2.1, ?_⟩, ?_, ?_, fun i hi => ?_, nx, L4, ?_, fun ago w a1 a2 a3 => ?_⟩⟩
  · rw [nz (fun q => (p2 q).1)]; exact S1.2.1
  · rw [nz (fun q => (p2 q).2.1)]; exact S1.2.2.1
  · rw [nz (fun q => (p2 q).2.2.1)]; exact S1.2.2.2.1
  · rw [nz (fun q => (p2 q).2.2.2.2.2.1)]; exact S1.2.2.2.2.1
  · rw [nz (fun q => (p2 q).2.2.2.2.2.2.1)]; exact S1.2.2.2.2.2.1
  · rw [nz (fun q => (p2 q).2.2.2.2.2.2.2.1)]; exact S1.2.2.2.2.2.2.1
  · rw [nz (fun q => (p2 q).2.2.2.2.2.2.2.2.1)]; exact S1.2.2.2.2.2.2.2.1
  · rw [nz (fun q => (p2 q).2.2.2.2.2.2.2.2.2.1)]; exact S1.2.2.2.2.2.2.2.2.1
  · rw [nz (fun q => (p2 q).2.2.2.2.2.2.2.2.2.2.1)]; exact S1.2.2.2.2.2.2.2.2.2.1
  · rw [nz (fun q => (p2 q).2.2.2.2.2.2.2.2.2.2.2)]; exact S1.2.2.2.2.2.2.2.2.2.2
  · by_cases he : k' = k ∧ j' = j
    · obtain ⟨rfl, rfl⟩ := he
      rw [hs_eq, up_same]
    · rw [up_ne he, hs_ne (fun z => he (vinj hd hd' (by omega) z.2)), R k' j' hd']
  · rw [nz (fun q => (p2 q).2.2.2.1), uf 4 (Or.inl rfl)]; exact T1
  · rw [nz (fun q => (p2 q).2.2.2.2.1), uf 5 (Or.inr rfl)]; exact T2
  · rw [n9 _ _ (Nat.le_refl _)]; exact L0.2.2
  · rw [n9 _ _ (Nat.le_refl _), u7]; exact L1
  · rw [u7]; exact L2
  · rw [n9 _ _ (by omega)]; exact L3 i hi
  · rw [n9 _ _ (Nat.le_refl _)]; exact L5
  · rw [u7] at a1
    rw [n9 _ _ (by omega), u20]; exact L6 ago w a1 a2 a3
end VLY
theorem Bd.end_T {A : Vs} (B : Bd A) : A 0 1 ≤ nI (nT A) := by rw [← B.2.2.1]; exact Int32.le_refl _
theorem Bd.in_T {A : Vs} (B : Bd A) {t : Nat} (ht : t < nT A) : ¬ A 0 1 ≤ nI t := by rw [B.2.2.1]; exact nI_ge ht (by have := B.2.2.2; omega)
theorem Bd.end_P {A : Vs} (B : Bd A) : A 0 0 ≤ nI (nP A) := by rw [← B.1]; exact Int32.le_refl _
theorem Bd.in_P {A : Vs} (B : Bd A) {t : Nat} (ht : t < nP A) : ¬ A 0 0 ≤ nI t := by rw [B.1]; exact nI_ge ht (by have := B.2.1; omega)
theorem Bd.T10 {A : Vs} (B : Bd A) {t : Nat} (ht : t < nT A) : t < 10 := by have := B.2.2.2; omega
theorem Bd.P7 {A : Vs} (B : Bd A) {t : Nat} (ht : t < nP A) : t < 7 := by have := B.2.1; omega
theorem EvI.mk {G : Gx} {q : Mr} {L : List Value} {h : Hp} {x : Int32} (k : EvM G q L h (fun o h' => o = .inl (some (.int x)) ∧ h' = h)) : EvI G q L h x := k
theorem Bd.person {A : Vs} (B : Bd A) {p : Int32} (h0 : ¬ p < 0) (h1 : ¬ A 0 0 ≤ p) : ∃ k, k < nP A ∧ p = nI k := by
  obtain ⟨j, hj, rfl⟩ := nI_of h0
  refine ⟨j, ?_, rfl⟩
  rcases Nat.lt_or_ge j (nP A) with z | z
  · exact z
  · exact absurd (by rw [B.1]; exact nI_le z hj) h1
theorem Bd.thing {A : Vs} (B : Bd A) {p : Int32} (h0 : ¬ p < 0) (h1 : ¬ A 0 1 ≤ p) : ∃ k, k < nT A ∧ p = nI k := by
  obtain ⟨j, hj, rfl⟩ := nI_of h0
  refine ⟨j, ?_, rfl⟩
  rcases Nat.lt_or_ge j (nT A) with z | z
  · exact z
  · exact absurd (by rw [B.2.2.1]; exact nI_le z hj) h1
theorem flag_bit {A : Vs} {f : Nat} (B : Bd A) {q : Nat} (hq : q < 32) : bit1 (flagF A f) q = if q < nP A then (if A f q = 1 then 1 else 0) else 0 := by
  have hn : nP A ≤ 32 := by have := B.2.1; omega
  rw [bit1_eq _ hq]
  unfold flagF
  rw [lp_bits (c := fun p => A f p = 1) hn hq]
  by_cases h1 : q < nP A
  · by_cases h2 : A f q = 1 <;> simp [h1, h2]
  · simp [h1]
