/-! ===== people two by two: by the first, by the last, by anyone ===== -/
def pl (pr : Nat → Nat → Bool) (w : Nat → Nat → Nat) : Nat → Nat → (Nat → Bool) → Nat
  | 0, _, _ => 0
  | d + 1, i, F => if F i = true then mx (fun o => decide (i < o) && (F o && pr i o)) (fun o => w i o + pl pr w d (i + 1) (rmB F o)) (i + d + 1) (pl pr w d (i + 1) F) else pl pr w d (i + 1) F
def ph (pr : Nat → Nat → Bool) (w : Nat → Nat → Nat) : Nat → (Nat → Bool) → Nat
  | 0, _ => 0
  | d + 1, F => if F d = true then mx (fun o => F o && pr d o) (fun o => w d o + ph pr w d (rmB F o)) d (ph pr w d F) else ph pr w d F
section PL
variable {pr : Nat → Nat → Bool} {w : Nat → Nat → Nat} {F F' : Nat → Bool} {d i X : Nat}
theorem pl_s (h : F i = true) : pl pr w (d + 1) i F ≤ X ↔ pl pr w d (i + 1) F ≤ X ∧ ∀ o, i < o → o < i + d + 1 → F o = true → pr i o = true → w i o + pl pr w d (i + 1) (rmB F o) ≤ X := by
  show (if F i = true then _ else _) ≤ X ↔ _
  rw [if_pos h, mx_le]
  constructor
  · intro ⟨a, b⟩; exact ⟨a, fun o h1 h2 h3 h4 => b o h2 (by simp [h1, h3, h4])⟩
  · intro ⟨a, b⟩; exact ⟨a, fun o h1 h2 => by
      simp only [Bool.and_eq_true, decide_eq_true_eq] at h2
      exact b o h2.1 h1 h2.2.1 h2.2.2⟩
theorem pl_n (h : ¬ F i = true) : pl pr w (d + 1) i F = pl pr w d (i + 1) F := by
  show (if F i = true then _ else _) = _
  rw [if_neg h]
theorem pl_congr : ∀ d i (F F' : Nat → Bool), (∀ j, i ≤ j → j < i + d → F j = F' j) → pl pr w d i F = pl pr w d i F'
  | 0, _, _, _, _ => rfl
  | d + 1, i, F, F', e => by
    have e0 := e i (Nat.le_refl _) (by omega)
    have ih := fun F F' (e : ∀ j, i + 1 ≤ j → j < i + 1 + d → F j = F' j) => pl_congr d (i + 1) F F' e
    have ihr : ∀ o, pl pr w d (i + 1) (rmB F o) = pl pr w d (i + 1) (rmB F' o) := fun o => ih _ _ (fun j a b => by unfold rmB; rw [e j (by omega) (by omega)])
    by_cases h : F i = true
    · refine le_ext (fun X => ?_)
      rw [pl_s h, pl_s (e0 ▸ h), ih F F' (fun j a b => e j (by omega) (by omega))]
      constructor
      · intro ⟨a, b⟩; exact ⟨a, fun o h1 h2 h3 h4 => by rw [← ihr]; exact b o h1 h2 (by rw [e o (by omega) (by omega)]; exact h3) h4⟩
      · intro ⟨a, b⟩; exact ⟨a, fun o h1 h2 h3 h4 => by rw [ihr]; exact b o h1 h2 (by rw [← e o (by omega) (by omega)]; exact h3) h4⟩
    · rw [pl_n h, pl_n (e0 ▸ h)]; exact ih F F' (fun j a b => e j (by omega) (by omega))
theorem pl_rm : pl pr w d (i + 1) (rmB F i) = pl pr w d (i + 1) F := pl_congr d (i + 1) _ _ (fun j a b => by unfold rmB; rw [decide_eq_false (by omega), Bool.not_false, Bool.and_true])
theorem pl_last : ∀ d i (F : Nat → Bool), F (i + d) = false → pl pr w (d + 1) i F = pl pr w d i F
  | 0, i, F, h => by rw [pl_n (by rw [Nat.add_zero] at h; rw [h]; decide)]; rfl
  | d + 1, i, F, h => by
    have h' : F (i + 1 + d) = false := by rw [show i + 1 + d = i + (d + 1) by omega]; exact h
    have ih := fun (F : Nat → Bool) (h : F (i + 1 + d) = false) => pl_last d (i + 1) F h
    have hr : ∀ o, rmB F o (i + 1 + d) = false := fun o => by unfold rmB; rw [h']; rfl
    by_cases c : F i = true
    · refine le_ext (fun X => ?_)
      rw [pl_s c, pl_s c, ih F h']
      constructor
      · intro ⟨a, b⟩; exact ⟨a, fun o h1 h2 h3 h4 => by rw [← ih _ (hr o)]; exact b o h1 (by omega) h3 h4⟩
      · intro ⟨a, b⟩; exact ⟨a, fun o h1 h2 h3 h4 => by
          have : o ≠ i + (d + 1) := fun q => by rw [q, h] at h3; cases h3
          rw [ih _ (hr o)]; exact b o h1 (by omega) h3 h4⟩
    · rw [pl_n c, pl_n c]; exact ih F h'
/-- anyone may be looked at first -/
theorem pl_R (sp : ∀ a o, pr a o = pr o a) (sw : ∀ a o, w a o = w o a) {v : Nat} : ∀ d i (F : Nat → Bool) (X : Nat), i ≤ v → v < i + d → F v = true → (pl pr w d i F ≤ X ↔ pl pr w d i (rmB F v) ≤ X ∧ ∀ o, i ≤ o → o < i + d → o ≠ v → F o = true → pr v o = true → w v o + pl pr w d i (rmB (rmB F v) o) ≤ X)
  | 0, i, F, X, h1, h2, _ => by omega
  | d + 1, i, F, X, h1, h2, hv => by
    have ih := fun (F : Nat → Bool) (X : Nat) (a : i + 1 ≤ v) (h : F v = true) => pl_R sp sw (v := v) d (i + 1) F X a (by omega) h
    by_cases c : v = i
    · subst c
      have e0 : pl pr w (d + 1) v (rmB F v) = pl pr w d (v + 1) F := by rw [pl_n (by rw [rmB_t]; exact fun q => q.2 rfl), pl_rm]
      have e1 : ∀ o, pl pr w (d + 1) v (rmB (rmB F v) o) = pl pr w d (v + 1) (rmB F o) := fun o => by rw [pl_n (by rw [rmB_t, rmB_t]; exact fun q => q.1.2 rfl), rmB_comm, pl_rm]
      rw [pl_s hv, e0]
      constructor
      · intro ⟨a, b⟩; exact ⟨a, fun o q1 q2 q3 q4 q5 => by rw [e1]; exact b o (by omega) (by omega) q4 q5⟩
      · intro ⟨a, b⟩; exact ⟨a, fun o q1 q2 q3 q4 => by rw [← e1]; exact b o (by omega) (by omega) (by omega) q3 q4⟩
    · have iv : i + 1 ≤ v := by omega
      by_cases h : F i = true
      · have hi : rmB F v i = true := rmB_t.mpr ⟨h, by omega⟩
        rw [pl_s h, pl_s hi, ih F X iv hv]
        have e2 : pl pr w (d + 1) i (rmB (rmB F v) i) = pl pr w d (i + 1) (rmB F v) := by rw [pl_n (by rw [rmB_t]; exact fun q => q.2 rfl), pl_rm]
        have hio : ∀ o, o ≠ i → rmB (rmB F v) o i = true := fun o q => rmB_t.mpr ⟨hi, Ne.symm q⟩
        constructor
        · intro ⟨⟨a1, a2⟩, b⟩
          refine ⟨⟨a1, fun o q1 q2 q3 q4 => ?_⟩, fun o q1 q2 q3 q4 q5 => ?_⟩
          · obtain ⟨q5, q6⟩ := rmB_t.mp q3
            have l1 := b o q1 q2 q5 q4
            have l2 := ((ih (rmB F o) _ iv (rmB_t.mpr ⟨hv, Ne.symm q6⟩)).mp (Nat.le_refl _)).1
            rw [rmB_comm] at l2
            omega
          · by_cases y : o = i
            · subst y
              rw [e2, sw]
              exact b v (by omega) (by omega) hv (by rw [sp]; exact q5)
            · have l1 := a2 o (by omega) (by omega) q3 q4 q5
              have t1 : pl pr w (d + 1) i (rmB (rmB F v) o) ≤ X - w v o := by
                refine (pl_s (hio o y)).mpr ⟨by omega, fun o' p1 p2 p3 p4 => ?_⟩
                obtain ⟨p5, p6⟩ := rmB_t.mp p3
                obtain ⟨p7, p8⟩ := rmB_t.mp p5
                have l2 := b o' p1 p2 p7 p4
                have l3 := ((ih (rmB F o') _ iv (rmB_t.mpr ⟨hv, Ne.symm p8⟩)).mp (Nat.le_refl _)).2 o (by omega) (by omega) q3 (rmB_t.mpr ⟨q4, Ne.symm p6⟩) q5
                rw [rmB_comm (F := F), rmB_comm (f := o')] at l3
                omega
              omega
        · intro ⟨⟨a1, a2⟩, b⟩
          refine ⟨⟨a1, fun o q1 q2 q3 q4 q5 => ?_⟩, fun o q1 q2 q3 q4 => ?_⟩
          · have l1 := b o (by omega) (by omega) q3 q4 q5
            have l2 := ((pl_s (pr := pr) (w := w) (d := d) (hio o (by omega))).mp (Nat.le_refl _)).1
            omega
          · by_cases y : o = v
            · subst y
              have l1 := b i (Nat.le_refl _) (by omega) (by omega) h (by rw [sp]; exact q4)
              rw [e2, sw] at l1; exact l1
            · have l1 := a2 o q1 q2 (rmB_t.mpr ⟨q3, y⟩) q4
              have t1 : pl pr w d (i + 1) (rmB F o) ≤ X - w i o := by
                refine (ih (rmB F o) _ iv (rmB_t.mpr ⟨hv, Ne.symm y⟩)).mpr ⟨by rw [rmB_comm]; omega, fun o' p1 p2 p3 p4 p5 => ?_⟩
                obtain ⟨p6, p7⟩ := rmB_t.mp p4
                have l2 := b o' (by omega) (by omega) p3 p6 p5
                have l3 := ((pl_s (pr := pr) (w := w) (d := d) (hio o' (by omega))).mp (Nat.le_refl _)).2 o q1 q2 (rmB_t.mpr ⟨rmB_t.mpr ⟨q3, y⟩, Ne.symm p7⟩) q4
                rw [rmB_comm (F := F), rmB_comm (f := o)]
                omega
              omega
      · rw [pl_n h, pl_n (fun q => h (rmB_t.mp q).1), ih F X iv hv]
        constructor
        · intro ⟨a, b⟩
          refine ⟨a, fun o q1 q2 q3 q4 q5 => ?_⟩
          have : o ≠ i := fun y => h (y ▸ q4)
          rw [pl_n (fun q => h (rmB_t.mp (rmB_t.mp q).1).1)]; exact b o (by omega) (by omega) q3 q4 q5
        · intro ⟨a, b⟩
          refine ⟨a, fun o q1 q2 q3 q4 q5 => ?_⟩
          have := b o (by omega) (by omega) q3 q4 q5
          rw [pl_n (fun q => h (rmB_t.mp (rmB_t.mp q).1).1)] at this; exact this
theorem ph_s (h : F d = true) : ph pr w (d + 1) F = mx (fun o => F o && pr d o) (fun o => w d o + ph pr w d (rmB F o)) d (ph pr w d F) := by
  show (if F d = true then _ else _) = _; rw [if_pos h]
theorem ph_n (h : ¬ F d = true) : ph pr w (d + 1) F = ph pr w d F := by
  show (if F d = true then _ else _) = _; rw [if_neg h]
theorem ph_pl (sp : ∀ a o, pr a o = pr o a) (sw : ∀ a o, w a o = w o a) : ∀ d (F : Nat → Bool), ph pr w d F = pl pr w d 0 F
  | 0, _ => rfl
  | d + 1, F => by
    have ih := fun (F : Nat → Bool) => ph_pl sp sw d F
    by_cases h : F d = true
    · refine le_ext (fun X => ?_)
      have hl : ∀ o, rmB (rmB F d) o (0 + d) = false := fun o => by unfold rmB; rw [Nat.zero_add, decide_eq_true (rfl : d = d)]; simp
      have e1 : ∀ o, pl pr w (d + 1) 0 (rmB (rmB F d) o) = ph pr w d (rmB F o) := fun o => by
        rw [pl_last d 0 _ (hl o), ih]
        exact pl_congr d 0 _ _ (fun j a b => by unfold rmB; rw [decide_eq_false (by omega : ¬ j = d), Bool.not_false, Bool.and_true])
      have e0 : pl pr w (d + 1) 0 (rmB F d) = ph pr w d F := by
        rw [pl_last d 0 _ (by unfold rmB; rw [Nat.zero_add, decide_eq_true (rfl : d = d)]; simp), ih]
        exact pl_congr d 0 _ _ (fun j a b => by unfold rmB; rw [decide_eq_false (by omega : ¬ j = d), Bool.not_false, Bool.and_true])
      rw [ph_s h, mx_le, pl_R sp sw (v := d) (d + 1) 0 F X (Nat.zero_le _) (by omega) h, e0]
      constructor
      · intro ⟨a, b⟩; exact ⟨a, fun o q1 q2 q3 q4 q5 => by rw [e1]; exact b o (by omega) (by simp [q4, q5])⟩
      · intro ⟨a, b⟩; exact ⟨a, fun o q1 q2 => by
          simp only [Bool.and_eq_true] at q2
          rw [← e1]; exact b o (by omega) (by omega) (by omega) q2.1 q2.2⟩
    · rw [ph_n h, ih, pl_last d 0 F (by rw [Nat.zero_add]; cases q : F d <;> simp_all)]
theorem ph_congr : ∀ d (F F' : Nat → Bool), (∀ j, j < d → F j = F' j) → ph pr w d F = ph pr w d F'
  | 0, _, _, _ => rfl
  | d + 1, F, F', e => by
    have ih := fun (F F' : Nat → Bool) (e : ∀ j, j < d → F j = F' j) => ph_congr d F F' e
    have ihr : ∀ o, ph pr w d (rmB F o) = ph pr w d (rmB F' o) := fun o => ih _ _ (fun j b => by unfold rmB; rw [e j (by omega)])
    by_cases h : F d = true
    · rw [ph_s h, ph_s (by rw [← e d (by omega)]; exact h), ih F F' (fun j b => e j (by omega))]
      refine le_ext (fun X => ?_)
      rw [mx_le, mx_le]
      constructor
      · intro ⟨a, b⟩; exact ⟨a, fun o h1 h2 => by rw [← ihr]; exact b o h1 (by rw [e o (by omega)]; exact h2)⟩
      · intro ⟨a, b⟩; exact ⟨a, fun o h1 h2 => by rw [ihr]; exact b o h1 (by rw [← e o (by omega)]; exact h2)⟩
    · rw [ph_n h, ph_n (by rw [← e d (by omega)]; exact h)]; exact ih F F' (fun j b => e j (by omega))
theorem ph_top {c : Nat} (h : ∀ j, c ≤ j → F j = false) : ∀ d, ph pr w (c + d) F = ph pr w c F
  | 0 => rfl
  | d + 1 => by
    show ph pr w (c + d + 1) F = _
    rw [ph_n (by rw [h (c + d) (by omega)]; decide), ph_top h d]
end PL
/-! sets of people -/
def clr (s p : Nat) : Nat := if s.testBit p = true then s ^^^ 2 ^ p else s
theorem clr_bit {s p j : Nat} : (clr s p).testBit j = rmB (fun i => s.testBit i) p j := by
  unfold clr rmB
  by_cases h : s.testBit p = true
  · rw [if_pos h, Nat.testBit_xor, Nat.testBit_two_pow]
    by_cases q : p = j
    · subst q; simp [h]
    · simp [q, Ne.symm q]
  · rw [if_neg h]
    by_cases q : j = p
    · subst q; simp_all
    · simp [q]
theorem bit_lt {s n p : Nat} (hs : s < 2 ^ n) (h : s.testBit p = true) : p < n := by
  rcases Nat.lt_or_ge p n with q | q
  · exact q
  · rw [Nat.testBit_lt_two_pow (Nat.lt_of_lt_of_le hs (Nat.pow_le_pow_right (by decide) q))] at h; cases h
theorem clr_lt {s n p : Nat} (hs : s < 2 ^ n) : clr s p < 2 ^ n := by
  unfold clr
  split
  · rename_i h; exact Nat.xor_lt_two_pow hs (Nat.pow_lt_pow_right (by decide) (bit_lt hs h))
  · exact hs
theorem clr_nI {s p : Nat} (hp : p < 32) : nI s &&& (sh1 p ^^^ -1) = nI (clr s p) := b_ext (fun i hi => by
  rw [bt_rm hp, bt_nI hi, clr_bit]; unfold rmB; rw [bt_nI hi])
theorem clr_no {s p : Nat} (h : ¬ s.testBit p = true) : clr s p = s := by unfold clr; rw [if_neg h]
def gpN (A : Vs) (p : Nat) : Nat := (A 2 p).toNatClampNeg
def prA (A : Vs) (a o : Nat) : Bool := decide (A 3 a ≠ nI o ∧ A 3 o ≠ nI a)
def wA (A : Vs) (a o : Nat) : Nat := gpN A a + gpN A o
theorem prA_sym (A : Vs) : ∀ a o, prA A a o = prA A o a := fun a o => decide_eq_decide.mpr ⟨fun q => ⟨q.2, q.1⟩, fun q => ⟨q.2, q.1⟩⟩
theorem wA_sym (A : Vs) : ∀ a o, wA A a o = wA A o a := fun a o => Nat.add_comm _ _
def PV (A : Vs) (s : Nat) : Nat := ph (prA A) (wA A) (nP A) (fun i => s.testBit i)
def lmN (A : Vs) : Nat := (flagF A 5).toNatClampNeg
def RV (A : Vs) (s : Nat) : Nat := PV A (s &&& lmN A)
theorem gpN_nI {A : Vs} (W : Wf A) {p : Nat} (hp : p < nP A) : A 2 p = nI (gpN A p) ∧ gpN A p ≤ 9 := by
  obtain ⟨k, hk, e⟩ := (W.2.2.1 p hp).2.2.2
  unfold gpN; rw [e, nI_clamp (by omega)]; exact ⟨rfl, hk⟩
theorem lm_sp {A : Vs} (B : Bd A) : flagF A 5 = nI (lmN A) ∧ lmN A < 2 ^ nP A ∧ ∀ i, (lmN A).testBit i = (decide (i < nP A) && lvB A i) := by
  have b7 := B.2.1
  obtain ⟨s, hs, e⟩ := small_of_bits (x := flagF A 5) (n := nP A) (by omega) (fun i hi h => by rw [flagF_bt (by omega) hi, decide_eq_false (by omega)])
  have p7 : 2 ^ nP A ≤ 128 := Nat.pow_le_pow_right (n := 2) (by decide) b7
  have e2 : lmN A = s := by unfold lmN; rw [e, nI_clamp (by omega)]
  rw [e2]
  refine ⟨e, hs, fun i => ?_⟩
  by_cases hi : i < 32
  · rw [← bt_nI hi, ← e, flagF_bt (by omega) hi]; unfold lvB; simp
  · rw [Nat.testBit_lt_two_pow (Nat.lt_of_lt_of_le hs (Nat.pow_le_pow_right (by decide) (by omega))), decide_eq_false (by omega)]; rfl
theorem ph_b {A : Vs} (W : Wf A) : ∀ d (F : Nat → Bool), d ≤ nP A → ph (prA A) (wA A) d F ≤ 18 * d
  | 0, _, _ => Nat.zero_le _
  | d + 1, F, h => by
    have ih := fun (F : Nat → Bool) => ph_b W d F (by omega)
    have g1 := (gpN_nI W (by omega : d < nP A)).2
    by_cases c : F d = true
    · rw [ph_s c]
      refine (mx_le d).mpr ⟨by have := ih F; omega, fun o h1 _ => ?_⟩
      have := ih (rmB F o)
      have := (gpN_nI W (by omega : o < nP A)).2
      have e : wA A d o = gpN A d + gpN A o := rfl
      omega
    · rw [ph_n c]; have := ih F; omega
theorem PV_b {A : Vs} (W : Wf A) (s : Nat) : PV A s ≤ 200 := by
  have := ph_b W (nP A) (fun i => s.testBit i) (Nat.le_refl _)
  have := W.1.2.1
  unfold PV; omega
theorem PV_step {A : Vs} {c k : Nat} (hc : c < nP A) (hk : k < 2 ^ c) : PV A (2 ^ c + k) = mx (fun o => k.testBit o && prA A c o) (fun o => wA A c o + PV A (clr k o)) c (PV A k) := by
  have tb : ∀ j, (2 ^ c + k).testBit j = (k.testBit j || decide (c = j)) := fun j => by
    have eo := Nat.two_pow_add_eq_or_of_lt hk 1
    rw [Nat.mul_one] at eo
    rw [eo, Nat.testBit_or, Nat.testBit_two_pow, Bool.or_comm]
  have hi : ∀ j, c ≤ j → k.testBit j = false := fun j hj => Nat.testBit_lt_two_pow (Nat.lt_of_lt_of_le hk (Nat.pow_le_pow_right (by decide) hj))
  have pk : ∀ s, s < 2 ^ c → PV A s = ph (prA A) (wA A) c (fun i => s.testBit i) := fun s hs => by
    unfold PV
    have := ph_top (pr := prA A) (w := wA A) (F := fun i => s.testBit i) (c := c) (fun j hj => Nat.testBit_lt_two_pow (Nat.lt_of_lt_of_le hs (Nat.pow_le_pow_right (by decide) hj))) (nP A - c)
    rw [show c + (nP A - c) = nP A by omega] at this; exact this
  have e1 : PV A (2 ^ c + k) = ph (prA A) (wA A) (c + 1) (fun i => (2 ^ c + k).testBit i) := by
    unfold PV
    have := ph_top (pr := prA A) (w := wA A) (F := fun i => (2 ^ c + k).testBit i) (c := c + 1) (fun j hj => by rw [tb, hi j (by omega), decide_eq_false (by omega)]; rfl) (nP A - (c + 1))
    rw [show c + 1 + (nP A - (c + 1)) = nP A by omega] at this; exact this
  have lo : ∀ j, j < c → (2 ^ c + k).testBit j = k.testBit j := fun j hj => by rw [tb, decide_eq_false (by omega), Bool.or_false]
  rw [e1, ph_s (by show (2 ^ c + k).testBit c = true; rw [tb]; simp)]
  refine le_ext (fun X => ?_)
  rw [mx_le, mx_le, pk k hk, ph_congr c _ (fun i => k.testBit i) lo]
  have er : ∀ o, ph (prA A) (wA A) c (rmB (fun i => (2 ^ c + k).testBit i) o) = PV A (clr k o) := fun o => by
    rw [pk _ (clr_lt hk)]
    exact ph_congr c _ _ (fun j hj => by rw [clr_bit]; unfold rmB; simp only [lo j hj])
  constructor
  · intro ⟨a, b⟩; exact ⟨a, fun o h1 h2 => by rw [← er]; exact b o h1 (by rw [lo o h1]; exact h2)⟩
  · intro ⟨a, b⟩; exact ⟨a, fun o h1 h2 => by rw [er]; exact b o h1 (by rw [← lo o h1]; exact h2)⟩
theorem and_clr {s t p : Nat} : clr (s &&& t) p = clr s p &&& t := Nat.eq_of_testBit_eq (fun j => by
  rw [clr_bit, Nat.testBit_and, clr_bit]; unfold rmB; simp only [Nat.testBit_and]
  cases s.testBit j <;> cases t.testBit j <;> simp)
theorem RV_same {A : Vs} (B : Bd A) {s p : Nat} (h : lvB A p = false) : RV A (clr s p) = RV A s := by
  unfold RV
  congr 1
  refine Nat.eq_of_testBit_eq (fun j => ?_)
  rw [Nat.testBit_and, Nat.testBit_and, clr_bit, (lm_sp B).2.2]
  unfold rmB
  by_cases q : j = p
  · subst q; simp [h]
  · simp [q]
/-- anyone of a set -/
theorem RV_step {A : Vs} (B : Bd A) {s p : Nat} (hp : p < nP A) (hs : s.testBit p = true) : RV A s = mx (fun o => (clr s p).testBit o && (lvB A p && (lvB A o && prA A p o))) (fun o => wA A p o + RV A (clr (clr s p) o)) (nP A) (RV A (clr s p)) := by
  obtain ⟨-, l2, l3⟩ := lm_sp B
  by_cases h : lvB A p = true
  · refine le_ext (fun X => ?_)
    have fb : ∀ j, j < nP A → (s &&& lmN A).testBit j = (s.testBit j && lvB A j) := fun j hj => by rw [Nat.testBit_and, l3, decide_eq_true hj, Bool.true_and]
    have hF : (s &&& lmN A).testBit p = true := by rw [fb p hp, hs, h]; rfl
    have pv : ∀ s', PV A s' = pl (prA A) (wA A) (nP A) 0 (fun i => s'.testBit i) := fun s' => ph_pl (prA_sym A) (wA_sym A) _ _
    have eF : ∀ t, (fun i => (clr t p &&& lmN A).testBit i) = rmB (fun i => (t &&& lmN A).testBit i) p := fun t => by funext j; rw [← and_clr, clr_bit]
    have eF2 : ∀ o, (fun i => (clr (clr s p) o &&& lmN A).testBit i) = rmB (rmB (fun i => (s &&& lmN A).testBit i) p) o := fun o => by funext j; rw [← and_clr, clr_bit, eF]
    show PV A (s &&& lmN A) ≤ X ↔ _
    rw [pv, pl_R (prA_sym A) (wA_sym A) (v := p) (nP A) 0 _ X (Nat.zero_le _) (by omega) hF, mx_le]
    show _ ↔ PV A (clr s p &&& lmN A) ≤ X ∧ _
    rw [pv, eF]
    constructor
    · intro ⟨a, b⟩
      refine ⟨a, fun o h1 h2 => ?_⟩
      show wA A p o + PV A (clr (clr s p) o &&& lmN A) ≤ X
      simp only [Bool.and_eq_true] at h2
      rw [clr_bit, rmB_t] at h2
      rw [pv, eF2]
      exact b o (Nat.zero_le _) (by omega) h2.1.2 (by show (s &&& lmN A).testBit o = true; rw [fb o h1]; simp [h2.1.1, h2.2.2.1]) h2.2.2.2
    · intro ⟨a, b⟩
      refine ⟨a, fun o h0 h1 h2 h3 h4 => ?_⟩
      have h3' : (s &&& lmN A).testBit o = true := h3
      rw [fb o (by omega), Bool.and_eq_true] at h3'
      have := b o (by omega) (by rw [clr_bit]; simp only [Bool.and_eq_true]; exact ⟨rmB_t.mpr ⟨h3'.1, h2⟩, h, h3'.2, h4⟩)
      have e : RV A (clr (clr s p) o) = pl (prA A) (wA A) (nP A) 0 (rmB (rmB (fun i => (s &&& lmN A).testBit i) p) o) := by unfold RV; rw [pv, eF2]
      rw [e] at this; exact this
  · have h' : lvB A p = false := by cases q : lvB A p <;> simp_all
    rw [RV_same B h']
    refine le_ext (fun X => ?_)
    rw [mx_le]
    exact ⟨fun a => ⟨a, fun o _ h2 => by rw [h'] at h2; simp at h2⟩, fun a => a.1⟩
abbrev lpC (A : Vs) (p s q : Nat) : Prop := ((clr s p).testBit q = true ∧ lvB A p = true ∧ lvB A q = true ∧ prA A p q = true) ∧ wA A p q + RV A (clr (clr s p) q) = RV A s
def lpG (A : Vs) (p s : Nat) : Nat → Nat → Int32
  | 0, _ => -1
  | d + 1, q => if ((clr s p).testBit q = true ∧ lvB A p = true ∧ lvB A q = true ∧ prA A p q = true) ∧ wA A p q + RV A (clr (clr s p) q) = RV A s then nI q else lpG A p s d (q + 1)
def lpF (A : Vs) (p s : Nat) : Int32 := if RV A (clr s p) = RV A s then -1 else lpG A p s (nP A) 0
theorem lp_sp {A : Vs} {p s : Nat} : ∀ d t, (lpG A p s d t = -1 ∧ ∀ q, t ≤ q → q < t + d → ¬ lpC A p s q) ∨ ∃ q, t ≤ q ∧ q < t + d ∧ lpG A p s d t = nI q ∧ lpC A p s q
  | 0, t => Or.inl ⟨rfl, fun s a b => by omega⟩
  | d + 1, t => by
    unfold lpG
    by_cases c : lpC A p s t
    · rw [if_pos c]; exact Or.inr ⟨t, Nat.le_refl _, by omega, rfl, c⟩
    · rw [if_neg c]
      rcases lp_sp (A := A) (p := p) (s := s) d (t + 1) with ⟨a, b⟩ | ⟨q, a, b, e, f⟩
      · refine Or.inl ⟨a, fun q h1 h2 => ?_⟩
        by_cases y : q = t
        · subst y; exact c
        · exact b q (by omega) (by omega)
      · exact Or.inr ⟨q, by omega, by omega, e, f⟩
theorem lpF_sp {A : Vs} (B : Bd A) {p s : Nat} (hp : p < nP A) (hs : s.testBit p = true) : (lpF A p s = -1 ∧ RV A (clr s p) = RV A s) ∨ ∃ q, q < nP A ∧ lpF A p s = nI q ∧ lpC A p s q ∧ ¬ RV A (clr s p) = RV A s ∧ lpG A p s (nP A) 0 = nI q := by
  unfold lpF
  by_cases c : RV A (clr s p) = RV A s
  · rw [if_pos c]; exact Or.inl ⟨rfl, c⟩
  · rw [if_neg c]
    rcases lp_sp (A := A) (p := p) (s := s) (nP A) 0 with ⟨-, a⟩ | ⟨q, a, b, e, f⟩
    · exfalso
      rcases mx_is (c := fun o => (clr s p).testBit o && (lvB A p && (lvB A o && prA A p o))) (v := fun o => wA A p o + RV A (clr (clr s p) o)) (base := RV A (clr s p)) (nP A) with e | ⟨i, hi, hc, e⟩
      · rw [← RV_step B hp hs] at e; exact c e.symm
      · rw [← RV_step B hp hs] at e
        simp only [Bool.and_eq_true] at hc
        exact a i (Nat.zero_le _) (by omega) ⟨hc, e.symm⟩
    · exact Or.inr ⟨q, by omega, e, f, c, e⟩
def nxS (A : Vs) (p s : Nat) : Nat := if lpF A p s = -1 then clr s p else clr (clr s p) (lpF A p s).toNatClampNeg
def ptn (A : Vs) (j : Nat) : Nat → Nat → Nat → Int32
  | 0, _, _ => -1
  | d + 1, p, s => if s.testBit p = true then (if p = j then lpF A p s else if lpF A p s = nI j then nI p else ptn A j d (p + 1) (nxS A p s)) else ptn A j d (p + 1) s
def prsQ (A : Vs) (p : Int32) : Int32 × Int32 := if p = -1 then (0, nI (RV A (2 ^ nP A - 1))) else if noF (A 0 0) p = 1 then (1, 0) else (0, ptn A p.toNatClampNeg (p.toNatClampNeg + 1) 0 (2 ^ nP A - 1))
theorem tz_low : ∀ s, s < 128 → ∀ p, p < 7 → s.testBit p = true → (∀ i, i < p → s.testBit i = false) → tz s = p := by decide +kernel
