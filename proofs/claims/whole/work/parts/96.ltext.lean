/-! ===== a law's text: what it tells, and what that is of somebody ===== -/
/-- the class's steps, the reference's steps -/
abbrev Lc : Type := List Int32 × List (Nat × Nat)
/-- a line: kind, amount, steps -/
abbrev Ln : Type := Nat × Nat × Lc
def pn (o : Nat) : Nat := match o with
  | 3 => 0
  | 4 => 1
  | 26 => 2
  | 27 => 3
  | 28 => 4
  | 10 => 5
  | 17 => 6
  | 24 => 7
  | 7 => 8
  | 25 => 9
  | _ => 20
theorem pn_op : ∀ o, o < 35 → pn o < 10 → opI o = nI (pn o) - 20 := by decide +kernel
theorem pn_part : ∀ o, o < 35 → ((¬ opI o < -20 ∧ ¬ -14 < opI o) ↔ pn o < 7) := by decide +kernel
theorem pn_tr : ∀ o, o < 35 → ((¬ opI o < -13 ∧ ¬ -11 < opI o) ↔ (7 ≤ pn o ∧ pn o ≤ 9)) := by decide +kernel
def prt (b : Nat → Nat) (u q : Nat) : Nat × Option Lc := if pn (tok b u q) < 7 then (nx b u q, some ([opI (tok b u q)], [(pn (tok b u q), 0)])) else if isN b u 0 999 q then (nx b u q, some ([nI (vl b u q)], [(10, vl b u q)])) else (q, none)
/-- more of the same behind a word or a sign -/
def lst (f : Nat → Nat × Option Lc) (b : Nat → Nat) (u sep : Nat) (o : List Int32) (c : List (Nat × Nat)) : Nat → Lc → Nat → Nat × Option Lc
  | 0, a, q => (q, some a)
  | e + 1, a, q => if tok b u q = sep then bnd (f (nx b u q)) fun q1 a1 => lst f b u sep o c e (a.1 ++ a1.1 ++ o, a.2 ++ a1.2 ++ c) q1 else (q, some a)
def lead (f : Nat → Nat × Option Lc) (b : Nat → Nat) (u sep : Nat) (o : List Int32) (c : List (Nat × Nat)) (q : Nat) : Nat × Option Lc := bnd (f q) fun q1 a => lst f b u sep o c (u + 1) a q1
def sumL (b : Nat → Nat) (u q : Nat) : Nat × Option Lc := lead (prt b u) b u 32 [] [(11, 0)] q
def bscL (b : Nat → Nat) (u q : Nat) : Nat × Option Lc := if 7 ≤ pn (tok b u q) ∧ pn (tok b u q) ≤ 9 then (nx b u q, some ([opI (tok b u q)], [(pn (tok b u q), 0)])) else
  bnd (sumL b u q) fun q1 a => if tok b u q1 = 33 ∨ tok b u q1 = 34 then bnd (sumL b u (nx b u q1)) fun q2 a2 => (q2, some (a.1 ++ [-10] ++ a2.1 ++ [opI (tok b u q1)], a.2 ++ a2.2 ++ [(tok b u q1 - 21, 0)])) else (q1, none)
def andL (f : Nat → Nat × Option Lc) (b : Nat → Nat) (u q : Nat) : Nat × Option Lc := lead f b u 22 [-6] [(15, 0)] q
def orL (f : Nat → Nat × Option Lc) (b : Nat → Nat) (u q : Nat) : Nat × Option Lc := lead (andL f b u) b u 21 [-5] [(16, 0)] q
/-- within so many more ( and not -/
def atmL (b : Nat → Nat) (u : Nat) : Nat → Nat → Nat × Option Lc
  | 0 => fun q => if tok b u q = 30 ∨ tok b u q = 23 then (q, none) else bscL b u q
  | d + 1 => fun q => if tok b u q = 30 then bnd (orL (atmL b u d) b u (nx b u q)) fun q1 a => if tok b u q1 = 31 then (nx b u q1, some a) else (q1, none)
    else if tok b u q = 23 then bnd (atmL b u d (nx b u q)) fun q1 a => (q1, some (a.1 ++ [-7], a.2 ++ [(14, 0)]))
    else bscL b u q
def kn (o : Nat) : Nat := match o with
  | 5 => 0
  | 18 => 1
  | 19 => 2
  | _ => 3
def lnL (b : Nat → Nat) (u q : Nat) : Nat × Option Ln := if kn (tok b u q) < 3 then bnd (num b u 0 40 (nx b u q)) fun q1 n => if tok b u q1 = 20 then bnd (orL (atmL b u 6) b u (nx b u q1)) fun q2 c => (q2, some (kn (tok b u q), n, c)) else (q1, some (kn (tok b u q), n, ([], []))) else (q, none)
def lnsL (b : Nat → Nat) (u : Nat) : Nat → List Ln → Nat → Nat × Option (List Ln)
  | 0, _, q => (q, none)
  | d + 1, D, q => bnd (lnL b u q) fun q1 l => if tok b u q1 = 0 then (q1, some (D ++ [l])) else if tok b u q1 = 29 then lnsL b u d (D ++ [l]) (nx b u q1) else (q1, none)
def lawL (b : Nat → Nat) (u : Nat) : Nat × Option (List Ln) := if tok b u (sk b u 0) = 0 then (sk b u 0, some []) else lnsL b u 12 [] (sk b u 0)
/-! how long it may be -/
def PO (u : Nat) (f : Nat → Nat × Option Lc) : Prop := ∀ q q1 a, q ≤ u → f q = (q1, some a) → q < q1 ∧ q1 ≤ u ∧ a.1.length + 2 * q ≤ 2 * q1 ∧ a.2.length + q ≤ q1
section LPO
variable {b : Nat → Nat} {u q q' : Nat} {f : Nat → Nat × Option Lc}
theorem tok_in {o : Nat} (h : tok b u q = o) (h0 : o ≠ 0) : q < u := by
  rcases Nat.lt_or_ge q u with z | z
  · exact z
  · exact absurd (h.symm.trans (tok_u (by omega))) h0
theorem pn_in (h : pn (tok b u q) < 10) : q < u := by
  rcases Nat.lt_or_ge q u with z | z
  · exact z
  · rw [tok_u (by omega)] at h; exact absurd h (by decide)
theorem prt_po : PO u (prt b u) := by
  intro q q1 a hq e
  unfold prt at e
  split at e
  · rename_i c
    have lt := pn_in (Nat.lt_of_lt_of_le c (by decide))
    have g := nx_gt (b := b) lt
    have l := nx_le (b := b) lt
    obtain ⟨e1, e2⟩ := Prod.mk.inj e
    have e2 := Option.some.inj e2
    subst e1; subst e2
    exact ⟨g, l, by simp; omega, by simp; omega⟩
  · split at e
    · rename_i c
      have lt := tok_in c.1 (by decide)
      have g := nx_gt (b := b) lt
      have l := nx_le (b := b) lt
      obtain ⟨e1, e2⟩ := Prod.mk.inj e
      have e2 := Option.some.inj e2
      subst e1; subst e2
      exact ⟨g, l, by simp; omega, by simp; omega⟩
    · cases (Prod.mk.inj e).2
theorem lst_po (hf : PO u f) {sep : Nat} (hs : sep ≠ 0) {o : List Int32} {c : List (Nat × Nat)} (ho : o.length ≤ 1) (hc : c.length ≤ 1) : ∀ e {a a' : Lc} {q q' : Nat}, q ≤ u → lst f b u sep o c e a q = (q', some a') → q ≤ q' ∧ q' ≤ u ∧ a'.1.length + 2 * q ≤ a.1.length + 2 * q' ∧ a'.2.length + q ≤ a.2.length + q'
  | 0, a, a', q, q', hq, e => by
    obtain ⟨e1, e2⟩ := Prod.mk.inj e
    have e2 := Option.some.inj e2
    subst e1; subst e2
    exact ⟨Nat.le_refl _, hq, Nat.le_refl _, Nat.le_refl _⟩
  | n + 1, a, a', q, q', hq, e => by
    unfold lst at e
    split at e
    · rename_i t
      have lt := tok_in t hs
      have g := nx_gt (b := b) lt
      have l := nx_le (b := b) lt
      obtain ⟨q1, a1, e1, e⟩ := bnd_s e
      obtain ⟨x1, x2, x3, x4⟩ := hf _ _ _ l e1
      obtain ⟨y1, y2, y3, y4⟩ := lst_po hf hs ho hc n x2 e
      simp only [List.length_append] at y3 y4
      exact ⟨by omega, y2, by omega, by omega⟩
    · obtain ⟨e1, e2⟩ := Prod.mk.inj e
      have e2 := Option.some.inj e2
      subst e1; subst e2
      exact ⟨Nat.le_refl _, hq, Nat.le_refl _, Nat.le_refl _⟩
theorem lead_po (hf : PO u f) {sep : Nat} (hs : sep ≠ 0) {o : List Int32} {c : List (Nat × Nat)} (ho : o.length ≤ 1) (hc : c.length ≤ 1) : PO u (lead f b u sep o c) := by
  intro q q1 a hq e
  unfold lead at e
  obtain ⟨q2, a2, e1, e⟩ := bnd_s e
  obtain ⟨x1, x2, x3, x4⟩ := hf _ _ _ hq e1
  obtain ⟨y1, y2, y3, y4⟩ := lst_po hf hs ho hc _ x2 e
  exact ⟨by omega, y2, by omega, by omega⟩
theorem sumL_po : PO u (sumL b u) := lead_po prt_po (by decide) (by decide) (by decide)
theorem bscL_po : PO u (bscL b u) := by
  intro q q1 a hq e
  unfold bscL at e
  split at e
  · rename_i c
    have lt := pn_in (b := b) (u := u) (q := q) (by omega)
    have g := nx_gt (b := b) lt
    have l := nx_le (b := b) lt
    obtain ⟨e1, e2⟩ := Prod.mk.inj e
    have e2 := Option.some.inj e2
    subst e1; subst e2
    exact ⟨g, l, by simp; omega, by simp; omega⟩
  · obtain ⟨q2, a2, e1, e⟩ := bnd_s e
    obtain ⟨x1, x2, x3, x4⟩ := sumL_po _ _ _ hq e1
    split at e
    · rename_i t
      have lt : q2 < u := by rcases t with t | t <;> exact tok_in t (by decide)
      have g := nx_gt (b := b) lt
      have l := nx_le (b := b) lt
      obtain ⟨q3, a3, e3, e⟩ := bnd_s e
      obtain ⟨y1, y2, y3, y4⟩ := sumL_po _ _ _ l e3
      obtain ⟨e1, e2⟩ := Prod.mk.inj e
      have e2 := Option.some.inj e2
      subst e1; subst e2
      simp only [List.length_append, List.length_cons, List.length_nil]
      exact ⟨by omega, y2, by omega, by omega⟩
    · cases (Prod.mk.inj e).2
theorem andL_po (hf : PO u f) : PO u (andL f b u) := lead_po hf (by decide) (by decide) (by decide)
theorem orL_po (hf : PO u f) : PO u (orL f b u) := lead_po (andL_po hf) (by decide) (by decide) (by decide)
theorem atmL_po : ∀ d, PO u (atmL b u d)
  | 0 => by
    intro q q1 a hq e
    unfold atmL at e
    split at e
    · cases (Prod.mk.inj e).2
    · exact bscL_po _ _ _ hq e
  | d + 1 => by
    intro q q1 a hq e
    unfold atmL at e
    split at e
    · rename_i t
      have lt := tok_in t (by decide)
      have g := nx_gt (b := b) lt
      have l := nx_le (b := b) lt
      obtain ⟨q2, a2, e1, e⟩ := bnd_s e
      obtain ⟨x1, x2, x3, x4⟩ := orL_po (atmL_po d) _ _ _ l e1
      split at e
      · rename_i t2
        have lt2 := tok_in t2 (by decide)
        have g2 := nx_gt (b := b) lt2
        have l2 := nx_le (b := b) lt2
        obtain ⟨e1, e2⟩ := Prod.mk.inj e
        have e2 := Option.some.inj e2
        subst e1; subst e2
        exact ⟨by omega, l2, by omega, by omega⟩
      · cases (Prod.mk.inj e).2
    · split at e
      · rename_i t
        have lt := tok_in t (by decide)
        have g := nx_gt (b := b) lt
        have l := nx_le (b := b) lt
        obtain ⟨q2, a2, e1, e⟩ := bnd_s e
        obtain ⟨x1, x2, x3, x4⟩ := atmL_po d _ _ _ l e1
        obtain ⟨e1, e2⟩ := Prod.mk.inj e
        have e2 := Option.some.inj e2
        subst e1; subst e2
        simp only [List.length_append, List.length_cons, List.length_nil]
        exact ⟨by omega, x2, by omega, by omega⟩
      · exact bscL_po _ _ _ hq e
end LPO
/-! what is so of somebody -/
def fcF (A : Vs) (p c : Nat) : Int32 := match c with
  | 0 => nI p
  | 1 => A 1 p
  | 2 => A 2 p
  | 3 => bcF (ownF A (nI p))
  | 4 => bcF (clothF A (nI p))
  | 5 => if holdF A (nI p) = -1 then 0 else A 7 (holdF A (nI p)).toNatClampNeg
  | 6 => A 0 2 - A 0 2 / 100 * 100
  | 7 => if holdF A (nI p) = -1 then 1 else 0
  | 8 => if A 4 p = 1 then 1 else 0
  | _ => if succF A p = -1 then 1 else 0
def mea (A : Vs) (p : Nat) (o : Int32) : Int32 := if o < -20 then 0 else if -11 < o then 0 else fcF A p (o + 20).toNatClampNeg
/-- the class's step: truths, left, sum -/
abbrev Cs : Type := Int32 × Int32 × Int32
def stC (A : Vs) (p : Nat) (z : Cs) (o : Int32) : Cs :=
  if o = -10 then (z.1, z.2.2, 0)
  else if o = -9 then ((z.1 <<< (1 &&& 31)) ||| (if z.2.1 < z.2.2 then 1 else 0), z.2.1, 0)
  else if o = -8 then ((z.1 <<< (1 &&& 31)) ||| (if z.2.2 < z.2.1 then 1 else 0), z.2.1, 0)
  else if o = -7 then (z.1 ^^^ 1, z.2.1, z.2.2)
  else if o = -6 then (if z.1 &&& 1 = 1 then z.1 >>> (1 &&& 31) else (z.1 >>> (1 &&& 31)) &&& -2, z.2.1, z.2.2)
  else if o = -5 then ((z.1 >>> (1 &&& 31)) ||| (z.1 &&& 1), z.2.1, z.2.2)
  else if o < -13 then (z.1, z.2.1, z.2.2 + (if o < 0 then mea A p o else o))
  else if -11 < o then (z.1, z.2.1, z.2.2 + (if o < 0 then mea A p o else o))
  else ((z.1 <<< (1 &&& 31)) ||| mea A p o, z.2.1, z.2.2)
def runC (A : Vs) (p : Nat) (os : List Int32) (z : Cs) : Cs := os.foldl (stC A p) z
abbrev holdC (A : Vs) (p : Nat) (os : List Int32) : Prop := (runC A p os (1, 0, 0)).1 &&& 1 = 1
/-- the reference's step -/
def biR (c : Nat) (x y : Int32) : Int32 := if c = 11 then x + y else if c = 12 then (if x < y then 1 else 0) else if c = 13 then (if y < x then 1 else 0) else if c = 15 then (if x + y = 2 then 1 else 0) else (if 0 < x + y then 1 else 0)
def stR (A : Vs) (p : Nat) (c : Nat × Nat) (st : List Int32) : Option (List Int32) :=
  if c.1 ≤ 10 then some ((if c.1 < 10 then fcF A p c.1 else nI c.2) :: st)
  else if c.1 = 14 then (match st with | a :: st => some ((1 - a) :: st) | [] => none)
  else match st with
    | y :: x :: st => if c.1 ≤ 16 then some (biR c.1 x y :: st) else none
    | _ => none
def runR (A : Vs) (p : Nat) : List (Nat × Nat) → List Int32 → Option (List Int32)
  | [], st => some st
  | c :: cs, st => (stR A p c st).bind (runR A p cs)
def lawT (D : List Ln) : Tt := fun A p k => D.foldl (fun s l => if nI l.1 = k ∧ holdC A p l.2.2.1 then s + nI l.2.1 else s) 0
section SEM
variable {A : Vs} {p : Nat} {b : Nat → Nat} {u : Nat} {f : Nat → Nat × Option Lc}
theorem runC_app (x y : List Int32) (z : Cs) : runC A p (x ++ y) z = runC A p y (runC A p x z) := List.foldl_append ..
theorem runC_1 (o : Int32) (z : Cs) : runC A p [o] z = stC A p z o := rfl
theorem runR_app : ∀ (x y : List (Nat × Nat)) (st : List Int32), runR A p (x ++ y) st = (runR A p x st).bind (runR A p y)
  | [], y, st => rfl
  | c :: x, y, st => by
    show (stR A p c st).bind (runR A p (x ++ y)) = ((stR A p c st).bind (runR A p x)).bind (runR A p y)
    cases stR A p c st with
    | none => rfl
    | some s => exact runR_app x y s
def SemS (A : Vs) (p : Nat) (a : Lc) (x : Int32) : Prop := (∀ t l s, runC A p a.1 (t, l, s) = (t, l, s + x)) ∧ ∀ st, runR A p a.2 st = some (x :: st)
def SemB (A : Vs) (p j : Nat) (a : Lc) (v : Bool) : Prop := (∀ (t : Nat) (l : Int32), t < 2 ^ j → ∃ l', runC A p a.1 (nI t, l, 0) = (nI (2 * t + v.toNat), l', 0)) ∧ ∀ st, runR A p a.2 st = some (b2i v :: st)
theorem SemB.mono {j k : Nat} {a : Lc} {v : Bool} (S : SemB A p j a v) (h : k ≤ j) : SemB A p k a v := ⟨fun t l ht => S.1 t l (Nat.lt_of_lt_of_le ht (Nat.pow_le_pow_right (by decide) h)), S.2⟩
/-! bits -/
theorem tb_0 (t : Nat) (v : Bool) : (2 * t + v.toNat).testBit 0 = v := by
  rw [Nat.testBit_zero]
  cases v
  · simp
  · simp
theorem tb_s (t : Nat) (v : Bool) (i : Nat) : (2 * t + v.toNat).testBit (i + 1) = t.testBit i := by
  rw [Nat.testBit_succ]
  congr 1
  cases v
  · simp
  · simp; omega
theorem b2i_bt (v : Bool) (i : Nat) (hi : i < 32) : bt (b2i v) i = (decide (i = 0) && v) := by
  cases v
  · show bt 0 i = _; rw [b_0]; simp
  · show bt 1 i = _; rw [b_1 i hi]; simp
theorem bb_shl (t : Nat) (v : Bool) : (nI t <<< (1 &&& 31)) ||| b2i v = nI (2 * t + v.toNat) := b_ext (fun i hi => by
  rw [b_or, bt_nI hi, b2i_bt v i hi]
  have e := b_shl 1 (by decide) (nI t) hi
  rw [show ((1 : Int32) &&& 31) = (nI 1 &&& 31) from rfl, e]
  cases i with
  | zero => rw [tb_0]; simp
  | succ i => rw [tb_s, Nat.add_sub_cancel, bt_nI (by omega)]; simp)
theorem bb_and1 (t : Nat) (v : Bool) : nI (2 * t + v.toNat) &&& 1 = b2i v := b_ext (fun i hi => by
  rw [b_and, bt_nI hi, b_1 i hi, b2i_bt v i hi]
  cases i with
  | zero => rw [tb_0]; simp
  | succ i => simp)
theorem bb_shr (t : Nat) (v : Bool) (h : 2 * t + v.toNat < 2 ^ 31) : nI (2 * t + v.toNat) >>> (1 &&& 31) = nI t := b_ext (fun i hi => by
  rw [show ((1 : Int32) &&& 31) = (nI 1 &&& 31) from rfl, b_sshr 1 (by decide) _ hi, bt_nI hi]
  by_cases c : 1 + i < 32
  · rw [if_pos c, bt_nI c, Nat.add_comm 1 i, tb_s]
  · rw [if_neg c, bt_nI (by decide), Nat.testBit_lt_two_pow h]
    have : i = 31 := by omega
    rw [this, Nat.testBit_lt_two_pow (by omega)])
theorem bb_xor (t : Nat) (v : Bool) : nI (2 * t + v.toNat) ^^^ 1 = nI (2 * t + (!v).toNat) := b_ext (fun i hi => by
  rw [b_xor, bt_nI hi, bt_nI hi, b_1 i hi]
  cases i with
  | zero => rw [tb_0, tb_0]; cases v <;> rfl
  | succ i => rw [tb_s, tb_s]; simp)
theorem b_m2 : ∀ i, i < 32 → bt (-2) i = decide (i ≠ 0) := by decide +kernel
theorem bb_m2 (t : Nat) (v : Bool) : nI (2 * t + v.toNat) &&& -2 = nI (2 * t + false.toNat) := b_ext (fun i hi => by
  rw [b_and, bt_nI hi, bt_nI hi, b_m2 i hi]
  cases i with
  | zero => rw [tb_0, tb_0]; simp
  | succ i => rw [tb_s, tb_s]; simp)
theorem bb_or (t : Nat) (v w : Bool) : nI (2 * t + v.toNat) ||| b2i w = nI (2 * t + (v || w).toNat) := b_ext (fun i hi => by
  rw [b_or, bt_nI hi, bt_nI hi, b2i_bt w i hi]
  cases i with
  | zero => rw [tb_0, tb_0]; simp
  | succ i => rw [tb_s, tb_s]; simp)
theorem nI_neg {v : Nat} (hv : v < 2 ^ 31) {c : Int32} (hc : c < 0) : ¬ nI v = c := fun z => absurd (by rw [z]; exact hc) (nI_pos hv)
theorem neg_nI {v : Nat} (hv : v < 2 ^ 31) {c : Int32} (hc : c < 0) : c < nI v := Int32.lt_of_lt_of_le hc (nI_pos' hv)
/-! single steps -/
theorem st_part {k : Nat} (hk : k < 7) (z : Cs) : stC A p z (nI k - 20) = (z.1, z.2.1, z.2.2 + fcF A p k) := by
  have : k = 0 ∨ k = 1 ∨ k = 2 ∨ k = 3 ∨ k = 4 ∨ k = 5 ∨ k = 6 := by omega
  rcases this with rfl | rfl | rfl | rfl | rfl | rfl | rfl <;>
  · unfold stC
    rw [if_neg (by decide), if_neg (by decide), if_neg (by decide), if_neg (by decide), if_neg (by decide), if_neg (by decide), if_pos (by decide), if_pos (by decide)]
    unfold mea
    rw [if_neg (by decide), if_neg (by decide)]
    rfl
theorem st_tr {k : Nat} (hk : 7 ≤ k ∧ k ≤ 9) (z : Cs) : stC A p z (nI k - 20) = ((z.1 <<< (1 &&& 31)) ||| fcF A p k, z.2.1, z.2.2) := by
  have : k = 7 ∨ k = 8 ∨ k = 9 := by omega
  rcases this with rfl | rfl | rfl <;>
  · unfold stC
    rw [if_neg (by decide), if_neg (by decide), if_neg (by decide), if_neg (by decide), if_neg (by decide), if_neg (by decide), if_neg (by decide), if_neg (by decide)]
    unfold mea
    rw [if_neg (by decide), if_neg (by decide)]
    rfl
theorem st_num {v : Nat} (hv : v < 2 ^ 31) (z : Cs) : stC A p z (nI v) = (z.1, z.2.1, z.2.2 + nI v) := by
  unfold stC
  rw [if_neg (nI_neg hv (by decide)), if_neg (nI_neg hv (by decide)), if_neg (nI_neg hv (by decide)), if_neg (nI_neg hv (by decide)), if_neg (nI_neg hv (by decide)), if_neg (nI_neg hv (by decide)), if_neg (fun y => Int32.lt_irrefl (Int32.lt_trans (neg_nI hv (c := -13) (by decide)) y)), if_pos (neg_nI hv (by decide)), if_neg (nI_pos hv)]
theorem fc_01 {k : Nat} (hk : 7 ≤ k ∧ k ≤ 9) : ∃ v, fcF A p k = b2i v := by
  have : k = 7 ∨ k = 8 ∨ k = 9 := by omega
  have ite : ∀ (c : Prop) [Decidable c], ∃ v, (if c then (1 : Int32) else 0) = b2i v := fun c _ => by
    by_cases z : c
    · exact ⟨true, by rw [if_pos z]; rfl⟩
    · exact ⟨false, by rw [if_neg z]; rfl⟩
  rcases this with rfl | rfl | rfl
  · exact ite _
  · exact ite _
  · exact ite _
theorem prt_sem {q q1 : Nat} {a : Lc} (e : prt b u q = (q1, some a)) : ∃ x, SemS A p a x := by
  unfold prt at e
  split at e
  · rename_i c
    have e2 := Option.some.inj (Prod.mk.inj e).2
    subst e2
    refine ⟨fcF A p (pn (tok b u q)), fun t l s => ?_, fun st => ?_⟩
    · rw [runC_1, pn_op _ tok_lt (by omega), st_part c]
    · show (stR A p (pn (tok b u q), 0) st).bind _ = _
      unfold stR
      rw [if_pos (by simp only; omega), if_pos (by simp only; omega)]
      rfl
  · split at e
    · rename_i c
      have e2 := Option.some.inj (Prod.mk.inj e).2
      subst e2
      refine ⟨nI (vl b u q), fun t l s => ?_, fun st => rfl⟩
      rw [runC_1, st_num (by have := c.2.2; omega)]
    · cases (Prod.mk.inj e).2
theorem lst_semS (hf : ∀ q q1 a, f q = (q1, some a) → ∃ x, SemS A p a x) {sep : Nat} : ∀ e {a a' : Lc} {q q' : Nat}, (∃ x, SemS A p a x) → lst f b u sep [] [(11, 0)] e a q = (q', some a') → ∃ x, SemS A p a' x
  | 0, a, a', q, q', S, e => by
    have e2 := Option.some.inj (Prod.mk.inj e).2
    subst e2; exact S
  | n + 1, a, a', q, q', S, e => by
    unfold lst at e
    split at e
    · obtain ⟨q1, a1, e1, e⟩ := bnd_s e
      obtain ⟨x, S1, S2⟩ := S
      obtain ⟨y, T1, T2⟩ := hf _ _ _ e1
      refine lst_semS hf n ⟨x + y, fun t l s => ?_, fun st => ?_⟩ e
      · show runC A p (a.1 ++ a1.1 ++ []) _ = _
        rw [List.append_nil, runC_app, S1, T1, Int32.add_assoc]
      · show runR A p (a.2 ++ a1.2 ++ [(11, 0)]) st = _
        rw [runR_app, runR_app, S2]
        show (runR A p a1.2 (x :: st)).bind _ = _
        rw [T2]
        rfl
    · have e2 := Option.some.inj (Prod.mk.inj e).2
      subst e2; exact S
theorem sumL_sem {q q1 : Nat} {a : Lc} (e : sumL b u q = (q1, some a)) : ∃ x, SemS A p a x := by
  unfold sumL lead at e
  obtain ⟨q2, a2, e1, e⟩ := bnd_s e
  exact lst_semS (fun _ _ _ e => prt_sem e) _ (prt_sem e1) e
theorem cmp_b {c : Prop} [Decidable c] : (if c then (1 : Int32) else 0) = b2i (decide c) := by
  by_cases z : c
  · rw [if_pos z, decide_eq_true z]; rfl
  · rw [if_neg z, decide_eq_false z]; rfl
theorem bscL_sem {q q1 : Nat} {a : Lc} (e : bscL b u q = (q1, some a)) : ∃ v, SemB A p 30 a v := by
  unfold bscL at e
  split at e
  · rename_i c
    have e2 := Option.some.inj (Prod.mk.inj e).2
    subst e2
    obtain ⟨v, hv⟩ := fc_01 (A := A) (p := p) c
    refine ⟨v, fun t l ht => ⟨l, ?_⟩, fun st => ?_⟩
    · rw [runC_1, pn_op _ tok_lt (by omega), st_tr c, hv, bb_shl]
    · show (stR A p (pn (tok b u q), 0) st).bind _ = _
      unfold stR
      rw [if_pos (by simp only; omega), if_pos (by simp only; omega), hv]
      rfl
  · obtain ⟨q2, a2, e1, e⟩ := bnd_s e
    obtain ⟨x, S1, S2⟩ := sumL_sem (A := A) (p := p) e1
    split at e
    · rename_i t
      obtain ⟨q3, a3, e3, e⟩ := bnd_s e
      obtain ⟨y, T1, T2⟩ := sumL_sem (A := A) (p := p) e3
      have e2 := Option.some.inj (Prod.mk.inj e).2
      subst e2
      have h10 : ∀ z : Cs, stC A p z (-10) = (z.1, z.2.2, 0) := fun z => by unfold stC; rw [if_pos rfl]
      rcases t with t | t
      · rw [t]
        refine ⟨decide (x < y), fun t l ht => ⟨x, ?_⟩, fun st => ?_⟩
        · show runC A p (a2.1 ++ [-10] ++ a3.1 ++ [-9]) _ = _
          rw [runC_app, runC_app, runC_app, S1, runC_1 (-10), h10, T1, runC_1]
          unfold stC
          rw [if_neg (by decide), if_pos rfl]
          simp only [Int32.zero_add]
          rw [cmp_b, bb_shl]
        · show runR A p (a2.2 ++ a3.2 ++ [(12, 0)]) st = _
          rw [runR_app, runR_app, S2]
          show ((runR A p a3.2 (x :: st)).bind _) = _
          rw [T2]
          show some ((if x < y then (1 : Int32) else 0) :: st) = _
          rw [cmp_b]
      · rw [t]
        refine ⟨decide (y < x), fun t l ht => ⟨x, ?_⟩, fun st => ?_⟩
        · show runC A p (a2.1 ++ [-10] ++ a3.1 ++ [-8]) _ = _
          rw [runC_app, runC_app, runC_app, S1, runC_1 (-10), h10, T1, runC_1]
          unfold stC
          rw [if_neg (by decide), if_neg (by decide), if_pos rfl]
          simp only [Int32.zero_add]
          rw [cmp_b, bb_shl]
        · show runR A p (a2.2 ++ a3.2 ++ [(13, 0)]) st = _
          rw [runR_app, runR_app, S2]
          show ((runR A p a3.2 (x :: st)).bind _) = _
          rw [T2]
          show some ((if y < x then (1 : Int32) else 0) :: st) = _
          rw [cmp_b]
    · cases (Prod.mk.inj e).2
theorem sem_and {j : Nat} {a a1 : Lc} {v v1 : Bool} (hj : j + 2 ≤ 31) (S : SemB A p j a v) (S1 : SemB A p (j + 1) a1 v1) : SemB A p j (a.1 ++ a1.1 ++ [-6], a.2 ++ a1.2 ++ [(15, 0)]) (v && v1) := by
  refine ⟨fun t l ht => ?_, fun st => ?_⟩
  · obtain ⟨l1, e1⟩ := S.1 t l ht
    have hp : 2 ^ (j + 2) ≤ 2 ^ 31 := Nat.pow_le_pow_right (by decide) hj
    have e4 : 2 ^ (j + 2) = 2 ^ j * 4 := by rw [Nat.pow_add]
    have e2' : 2 ^ (j + 1) = 2 ^ j * 2 := by rw [Nat.pow_add]
    have vb : v.toNat ≤ 1 := by cases v <;> decide
    have vb1 : v1.toNat ≤ 1 := by cases v1 <;> decide
    obtain ⟨l2, e2⟩ := S1.1 (2 * t + v.toNat) l1 (by omega)
    refine ⟨l2, ?_⟩
    show runC A p (a.1 ++ a1.1 ++ [-6]) _ = _
    rw [runC_app, runC_app, e1, e2, runC_1]
    unfold stC
    rw [if_neg (by decide), if_neg (by decide), if_neg (by decide), if_neg (by decide), if_pos rfl]
    simp only
    rw [bb_and1, bb_shr _ _ (by omega)]
    cases v1 with
    | true => rw [show b2i true = 1 from rfl, if_pos rfl, Bool.and_true]
    | false => rw [show b2i false = 0 from rfl, if_neg (by decide), Bool.and_false, bb_m2]
  · show runR A p (a.2 ++ a1.2 ++ [(15, 0)]) st = _
    rw [runR_app, runR_app, S.2]
    show ((runR A p a1.2 (b2i v :: st)).bind _) = _
    rw [S1.2]
    cases v <;> cases v1 <;> rfl
theorem sem_or {j : Nat} {a a1 : Lc} {v v1 : Bool} (hj : j + 2 ≤ 31) (S : SemB A p j a v) (S1 : SemB A p (j + 1) a1 v1) : SemB A p j (a.1 ++ a1.1 ++ [-5], a.2 ++ a1.2 ++ [(16, 0)]) (v || v1) := by
  refine ⟨fun t l ht => ?_, fun st => ?_⟩
  · obtain ⟨l1, e1⟩ := S.1 t l ht
    have hp : 2 ^ (j + 2) ≤ 2 ^ 31 := Nat.pow_le_pow_right (by decide) hj
    have e4 : 2 ^ (j + 2) = 2 ^ j * 4 := by rw [Nat.pow_add]
    have e2' : 2 ^ (j + 1) = 2 ^ j * 2 := by rw [Nat.pow_add]
    have vb : v.toNat ≤ 1 := by cases v <;> decide
    have vb1 : v1.toNat ≤ 1 := by cases v1 <;> decide
    obtain ⟨l2, e2⟩ := S1.1 (2 * t + v.toNat) l1 (by omega)
    refine ⟨l2, ?_⟩
    show runC A p (a.1 ++ a1.1 ++ [-5]) _ = _
    rw [runC_app, runC_app, e1, e2, runC_1]
    unfold stC
    rw [if_neg (by decide), if_neg (by decide), if_neg (by decide), if_neg (by decide), if_neg (by decide), if_pos rfl]
    simp only
    rw [bb_and1, bb_shr _ _ (by omega), bb_or]
  · show runR A p (a.2 ++ a1.2 ++ [(16, 0)]) st = _
    rw [runR_app, runR_app, S.2]
    show ((runR A p a1.2 (b2i v :: st)).bind _) = _
    rw [S1.2]
    cases v <;> cases v1 <;> rfl
theorem lst_semB {j : Nat} {o : Int32} {c : Nat} {op : Bool → Bool → Bool} (hc : ∀ {a a1 : Lc} {v v1 : Bool}, SemB A p j a v → SemB A p (j + 1) a1 v1 → SemB A p j (a.1 ++ a1.1 ++ [o], a.2 ++ a1.2 ++ [(c, 0)]) (op v v1)) (hf : ∀ q q1 a, f q = (q1, some a) → ∃ v, SemB A p (j + 1) a v) {sep : Nat} : ∀ e {a a' : Lc} {q q' : Nat}, (∃ v, SemB A p j a v) → lst f b u sep [o] [(c, 0)] e a q = (q', some a') → ∃ v, SemB A p j a' v
  | 0, a, a', q, q', S, e => by
    have e2 := Option.some.inj (Prod.mk.inj e).2
    subst e2; exact S
  | n + 1, a, a', q, q', S, e => by
    unfold lst at e
    split at e
    · obtain ⟨q1, a1, e1, e⟩ := bnd_s e
      obtain ⟨v, S⟩ := S
      obtain ⟨v1, S1⟩ := hf _ _ _ e1
      exact lst_semB hc hf n ⟨_, hc S S1⟩ e
    · have e2 := Option.some.inj (Prod.mk.inj e).2
      subst e2; exact S
theorem andL_sem {j : Nat} (hj : j + 2 ≤ 31) (hf : ∀ q q1 a, f q = (q1, some a) → ∃ v, SemB A p (j + 1) a v) {q q1 : Nat} {a : Lc} (e : andL f b u q = (q1, some a)) : ∃ v, SemB A p j a v := by
  unfold andL lead at e
  obtain ⟨q2, a2, e1, e⟩ := bnd_s e
  obtain ⟨v, S⟩ := hf _ _ _ e1
  exact lst_semB (op := fun v v1 => v && v1) (fun S S1 => sem_and hj S S1) hf _ ⟨v, S.mono (Nat.le_succ _)⟩ e
theorem orL_sem {j : Nat} (hj : j + 3 ≤ 31) (hf : ∀ q q1 a, f q = (q1, some a) → ∃ v, SemB A p (j + 2) a v) {q q1 : Nat} {a : Lc} (e : orL f b u q = (q1, some a)) : ∃ v, SemB A p j a v := by
  unfold orL lead at e
  obtain ⟨q2, a2, e1, e⟩ := bnd_s e
  obtain ⟨v, S⟩ := andL_sem (j := j + 1) (by omega) hf e1
  exact lst_semB (op := fun v v1 => v || v1) (fun S S1 => sem_or (by omega) S S1) (fun _ _ _ e => andL_sem (j := j + 1) (by omega) hf e) _ ⟨v, S.mono (Nat.le_succ _)⟩ e
theorem sem_not {j : Nat} {a : Lc} {v : Bool} (S : SemB A p j a v) : SemB A p j (a.1 ++ [-7], a.2 ++ [(14, 0)]) (!v) := by
  refine ⟨fun t l ht => ?_, fun st => ?_⟩
  · obtain ⟨l1, e1⟩ := S.1 t l ht
    refine ⟨l1, ?_⟩
    show runC A p (a.1 ++ [-7]) _ = _
    rw [runC_app, e1, runC_1]
    unfold stC
    rw [if_neg (by decide), if_neg (by decide), if_neg (by decide), if_pos rfl]
    simp only
    rw [bb_xor]
  · show runR A p (a.2 ++ [(14, 0)]) st = _
    rw [runR_app, S.2]
    cases v <;> rfl
theorem atmL_sem : ∀ d, d ≤ 7 → ∀ q q1 a, atmL b u d q = (q1, some a) → ∃ v, SemB A p (30 - 2 * d) a v
  | 0, _, q, q1, a, e => by
    unfold atmL at e
    split at e
    · cases (Prod.mk.inj e).2
    · exact bscL_sem e
  | d + 1, hd, q, q1, a, e => by
    unfold atmL at e
    split at e
    · obtain ⟨q2, a2, e1, e⟩ := bnd_s e
      obtain ⟨v, S⟩ := orL_sem (A := A) (p := p) (j := 30 - 2 * (d + 1)) (by omega) (fun q q1 a e => by rw [show 30 - 2 * (d + 1) + 2 = 30 - 2 * d by omega]; exact atmL_sem d (by omega) q q1 a e) e1
      split at e
      · have e2 := Option.some.inj (Prod.mk.inj e).2
        subst e2; exact ⟨v, S⟩
      · cases (Prod.mk.inj e).2
    · split at e
      · obtain ⟨q2, a2, e1, e⟩ := bnd_s e
        obtain ⟨v, S⟩ := atmL_sem d (by omega) _ _ _ e1
        have e2 := Option.some.inj (Prod.mk.inj e).2
        subst e2; exact ⟨_, (sem_not S).mono (by omega)⟩
      · obtain ⟨v, S⟩ := bscL_sem (A := A) (p := p) e
        exact ⟨v, S.mono (by omega)⟩
/-- what a condition says is the same in both -/
theorem cond_sem {q q1 : Nat} {a : Lc} (e : orL (atmL b u 6) b u q = (q1, some a)) : runR A p a.2 [] = some [if holdC A p a.1 then 1 else 0] := by
  obtain ⟨v, S⟩ := orL_sem (A := A) (p := p) (j := 16) (by omega) (fun q q1 a e => atmL_sem 6 (by omega) q q1 a e) e
  obtain ⟨l, e1⟩ := S.1 1 0 (by decide)
  rw [S.2]
  have : (if holdC A p a.1 then (1 : Int32) else 0) = b2i v := by
    unfold holdC
    rw [show ((1 : Int32), (0 : Int32), (0 : Int32)) = (nI 1, 0, 0) from rfl, e1]
    simp only
    rw [bb_and1]
    cases v <;> rfl
  rw [this]
end SEM
