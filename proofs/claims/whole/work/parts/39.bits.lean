def lp {α : Type} (f : Nat → α → α) : Nat → α → α
  | 0, a => a
  | n + 1, a => f n (lp f n a)
theorem lp_congr {α : Type} {f g : Nat → α → α} {n : Nat} (h : ∀ t, t < n → ∀ a, f t a = g t a) (a : α) : lp f n a = lp g n a := by
  induction n with
  | zero => rfl
  | succ n ih =>
    show f n (lp f n a) = g n (lp g n a)
    rw [ih (fun t ht => h t (Nat.lt_succ_of_lt ht)), h n (Nat.lt_succ_self n)]
/-! ===== bits (bt .. b_sshr: the kit's BITS.to-paste) ===== -/
def bt (x : Int32) (i : Nat) : Bool := x.toBitVec.getLsbD i
theorem b_ext {x y : Int32} (h : ∀ i, i < 32 → bt x i = bt y i) : x = y := Int32.toBitVec_inj.mp (BitVec.eq_of_getLsbD_eq (fun i hi => h i hi))
theorem b_or (x y : Int32) (i : Nat) : bt (x ||| y) i = (bt x i || bt y i) := by unfold bt; rw [Int32.toBitVec_or, BitVec.getLsbD_or]
theorem b_and (x y : Int32) (i : Nat) : bt (x &&& y) i = (bt x i && bt y i) := by unfold bt; rw [Int32.toBitVec_and, BitVec.getLsbD_and]
theorem b_xor (x y : Int32) (i : Nat) : bt (x ^^^ y) i = (bt x i ^^ bt y i) := by unfold bt; rw [Int32.toBitVec_xor, BitVec.getLsbD_xor]
theorem b_big {x : Int32} {i : Nat} (h : 32 ≤ i) : bt x i = false := BitVec.getLsbD_of_ge _ _ h
theorem b_255 (i : Nat) : bt 255 i = decide (i < 8) := by
  rcases Nat.lt_or_ge i 32 with h | h
  · exact (by decide +kernel : ∀ i, i < 32 → bt 255 i = decide (i < 8)) i h
  · rw [b_big h, decide_eq_false (by omega)]
theorem b_65535 (i : Nat) : bt 65535 i = decide (i < 16) := by
  rcases Nat.lt_or_ge i 32 with h | h
  · exact (by decide +kernel : ∀ i, i < 32 → bt 65535 i = decide (i < 16)) i h
  · rw [b_big h, decide_eq_false (by omega)]
theorem b_m1 : ∀ i, i < 32 → bt (-1) i = true := by decide +kernel
theorem b_0 (i : Nat) : bt 0 i = false := BitVec.getLsbD_zero
theorem s_l : ∀ n, n < 32 → ((nI n &&& 31).toBitVec.smod 32).toNat = n := by decide +kernel
theorem s_u : ∀ n, n < 32 → (((nI n).toUInt32 &&& Int32.toUInt32 31).toBitVec % 32).toNat = n := by decide +kernel
theorem b_shl (n : Nat) (hn : n < 32) (x : Int32) {i : Nat} (hi : i < 32) : bt (x <<< (nI n &&& 31)) i = (decide (n ≤ i) && bt x (i - n)) := by
  unfold bt
  rw [Int32.toBitVec_shiftLeft]
  show (x.toBitVec <<< ((nI n &&& 31).toBitVec.smod 32).toNat).getLsbD i = _
  rw [s_l n hn, BitVec.getLsbD_shiftLeft]
  rcases Nat.lt_or_ge i n with h | h
  · simp [h, Nat.not_le.mpr h]
  · simp [hi, h, Nat.not_lt.mpr h]
theorem b_ushr (n : Nat) (hn : n < 32) (x : Int32) (i : Nat) : bt ((x.toUInt32 >>> ((nI n).toUInt32 &&& Int32.toUInt32 31)).toInt32) i = bt x (n + i) := by
  show (x.toUInt32 >>> ((nI n).toUInt32 &&& Int32.toUInt32 31)).toBitVec.getLsbD i = x.toUInt32.toBitVec.getLsbD (n + i)
  rw [UInt32.toBitVec_shiftRight]
  show (x.toUInt32.toBitVec >>> (((nI n).toUInt32 &&& Int32.toUInt32 31).toBitVec % 32).toNat).getLsbD i = _
  rw [s_u n hn, BitVec.getLsbD_ushiftRight]
theorem b_sshr (n : Nat) (hn : n < 32) (x : Int32) {i : Nat} (hi : i < 32) : bt (x >>> (nI n &&& 31)) i = if n + i < 32 then bt x (n + i) else bt x 31 := by
  unfold bt
  rw [Int32.toBitVec_shiftRight]
  show (x.toBitVec.sshiftRight ((nI n &&& 31).toBitVec.smod 32).toNat).getLsbD i = _
  rw [s_l n hn, BitVec.getLsbD_sshiftRight, BitVec.msb_eq_getLsbD_last]
  simp [hi]

theorem b_1 : ∀ i, i < 32 → bt 1 i = decide (i = 0) := by decide +kernel
def sh1 (t : Nat) : Int32 := (1 : Int32) <<< (nI t &&& 31)
def bit1 (x : Int32) (p : Nat) : Int32 := (x >>> (nI p &&& 31)) &&& 1
theorem b_sh1 {t i : Nat} (ht : t < 32) (hi : i < 32) : bt (sh1 t) i = decide (i = t) := by
  unfold sh1
  rw [b_shl t ht 1 hi, b_1 (i - t) (by omega)]
  by_cases h : i = t
  · subst h; simp
  · by_cases h2 : t ≤ i
    · simp [h, h2]; omega
    · simp [h, h2]
theorem bit1_eq (x : Int32) {q : Nat} (hq : q < 32) : bit1 x q = if bt x q then 1 else 0 := by
  apply b_ext
  intro i hi
  unfold bit1
  rw [b_and, b_sshr q hq x hi, b_1 i hi]
  by_cases h0 : i = 0
  · subst h0
    rw [if_pos (by omega), Nat.add_zero]
    by_cases hb : bt x q = true
    · rw [if_pos hb, hb, b_1 0 hi]; rfl
    · have hb' : bt x q = false := by simpa using hb
      rw [if_neg hb, hb', b_0]; rfl
  · have : decide (i = 0) = false := by simp [h0]
    rw [this, Bool.and_false]
    split
    · rw [b_1 i hi, this]
    · rw [b_0]
theorem lp_bits {c : Nat → Prop} [DecidablePred c] {n : Nat} (hn : n ≤ 32) {i : Nat} (hi : i < 32) : bt (lp (fun t b => if c t then b ||| sh1 t else b) n 0) i = decide (i < n ∧ c i) := by
  induction n with
  | zero => rw [show lp (fun t b => if c t then b ||| sh1 t else b) 0 0 = (0 : Int32) from rfl, b_0]; simp
  | succ n ih =>
    have ih := ih (by omega)
    show bt (if c n then lp (fun t b => if c t then b ||| sh1 t else b) n 0 ||| sh1 n else lp (fun t b => if c t then b ||| sh1 t else b) n 0) i = _
    split
    · rename_i hc
      rw [b_or, ih, b_sh1 (by omega) hi]
      by_cases he : i = n
      · subst he; simp [hc]
      · simp only [he, decide_false, Bool.or_false]
        congr 1
        exact propext ⟨fun z => ⟨by omega, z.2⟩, fun z => ⟨by omega, z.2⟩⟩
    · rename_i hc
      rw [ih]
      congr 1
      refine propext ⟨fun z => ⟨by omega, z.2⟩, fun z => ⟨?_, z.2⟩⟩
      have : i ≠ n := fun e => hc (e ▸ z.2)
      omega
