/-! ===== small sets; what nights keep ===== -/
def cntN (s : Nat) : Nat → Nat → Nat
  | 0, _ => 0
  | d + 1, t => (if s.testBit t then 1 else 0) + cntN s d (t + 1)
def pcN (s : Nat) : Nat := cntN s 13 0
def nthN (s : Nat) : Nat → Nat → Nat → Nat
  | 0, _, _ => 99
  | d + 1, t, k => if s.testBit t then (if k = 0 then t else nthN s d (t + 1) (k - 1)) else nthN s d (t + 1) k
theorem bt_nI {s i : Nat} (hi : i < 32) : bt (nI s) i = s.testBit i := by
  unfold bt nI
  show (BitVec.ofNat 32 s).getLsbD i = _
  rw [BitVec.getLsbD_ofNat]
  simp [hi]
theorem bit1_nI {s t : Nat} (ht : t < 32) : bit1 (nI s) t = if s.testBit t then 1 else 0 := by rw [bit1_eq _ ht, bt_nI ht]
theorem ones_bt : ∀ n, n < 14 → ∀ i, i < 32 → bt (nI (2 ^ n - 1)) i = decide (i < n) := by decide +kernel
theorem ones_nat : ∀ n, n < 14 → (nI (2 ^ n - 1)).toBitVec.toNat = 2 ^ n - 1 := by decide +kernel
theorem small_of_bits {x : Int32} {n : Nat} (hn : n < 14) (h : ∀ i, i < 32 → n ≤ i → bt x i = false) : ∃ s, s < 2 ^ n ∧ x = nI s := by
  have e : x = x &&& nI (2 ^ n - 1) := by
    refine b_ext (fun i hi => ?_)
    rw [b_and, ones_bt n hn i hi]
    by_cases hz : i < n
    · simp [hz]
    · simp [hz, h i hi (by omega)]
  refine ⟨x.toBitVec.toNat % 2 ^ n, Nat.mod_lt _ (Nat.two_pow_pos n), ?_⟩
  rw [← pk_and x n (ones_nat n hn)]
  exact e
theorem and_nI (a b : Nat) : nI a &&& nI b = nI (a &&& b) := b_ext (fun i hi => by rw [b_and, bt_nI hi, bt_nI hi, bt_nI hi, Nat.testBit_and])
def bnA (s : Nat) : Nat := s - (s / 2 &&& 1431655765)
def bnB (s : Nat) : Nat := (s &&& 858993459) + (s / 4 &&& 858993459)
def bnC (s : Nat) : Nat := (s + s / 16) &&& 252645135
def bnD (s : Nat) : Nat := s + s / 256
def bnE (s : Nat) : Nat := s + s / 65536
def bnF (s : Nat) : Nat := bnE (bnD (bnC (bnB (bnA s)))) &&& 63
theorem us_nI {a : Nat} (h : a < 2 ^ 32) {y : Int32} (k D : Nat) (hs : ((y.toUInt32 &&& Int32.toUInt32 31).toBitVec % 32).toNat = k) (hD : 2 ^ k = D) : us (nI a) y = nI (a / D) := by rw [← hD]; exact pk_ushrN h y k hs
theorem bcF_nat {s : Nat} (hs : s < 8192) : bcF (nI s) = nI (bnF s) := by
  have l1 : s / 2 &&& 1431655765 ≤ s / 2 := Nat.and_le_left
  have eA : bcA (nI s) = nI (bnA s) := by
    unfold bcA bnA
    rw [us_nI (by omega) 1 2 (by decide) (by decide), show (1431655765 : Int32) = nI 1431655765 from rfl, and_nI, pk_sub (by omega)]
  have hA : bnA s < 8192 := by unfold bnA; omega
  have eB : bcB (nI (bnA s)) = nI (bnB (bnA s)) := by
    unfold bcB bnB
    rw [us_nI (by omega) 2 4 (by decide) (by decide), show (858993459 : Int32) = nI 858993459 from rfl, and_nI, and_nI, nI_add]
  have hB : bnB (bnA s) < 16384 := by
    have l2 : bnA s &&& 858993459 ≤ bnA s := Nat.and_le_left
    have l3 : bnA s / 4 &&& 858993459 ≤ bnA s / 4 := Nat.and_le_left
    unfold bnB; omega
  have eC : bcC (nI (bnB (bnA s))) = nI (bnC (bnB (bnA s))) := by
    unfold bcC bnC
    rw [us_nI (by omega) 4 16 (by decide) (by decide), nI_add, show (252645135 : Int32) = nI 252645135 from rfl, and_nI]
  have hC : bnC (bnB (bnA s)) < 32768 := by
    have l2 : (bnB (bnA s) + bnB (bnA s) / 16) &&& 252645135 ≤ bnB (bnA s) + bnB (bnA s) / 16 := Nat.and_le_left
    unfold bnC; omega
  have eD : bcD (nI (bnC (bnB (bnA s)))) = nI (bnD (bnC (bnB (bnA s)))) := by
    unfold bcD bnD
    rw [us_nI (by omega) 8 256 (by decide) (by decide), nI_add]
  have hD : bnD (bnC (bnB (bnA s))) < 65536 := by unfold bnD; omega
  have eE : bcE (nI (bnD (bnC (bnB (bnA s))))) = nI (bnE (bnD (bnC (bnB (bnA s))))) := by
    unfold bcE bnE
    rw [us_nI (by omega) 16 65536 (by decide) (by decide), nI_add]
  unfold bcF bnF
  rw [eA, eB, eC, eD, eE, show (63 : Int32) = nI 63 from rfl, and_nI]
def bnOk (s : Nat) : Bool := Nat.beq (bnF s) (pcN s) && Nat.ble (pcN s) 13 && (Nat.beq s 0 || Nat.ble 1 (pcN s))
theorem bnOk_0 : (List.range 256).all (fun i => bnOk (0 + i)) = true := by decide +kernel
theorem bnOk_1 : (List.range 256).all (fun i => bnOk (256 + i)) = true := by decide +kernel
theorem bnOk_2 : (List.range 256).all (fun i => bnOk (512 + i)) = true := by decide +kernel
theorem bnOk_3 : (List.range 256).all (fun i => bnOk (768 + i)) = true := by decide +kernel
theorem bnOk_4 : (List.range 256).all (fun i => bnOk (1024 + i)) = true := by decide +kernel
theorem bnOk_5 : (List.range 256).all (fun i => bnOk (1280 + i)) = true := by decide +kernel
theorem bnOk_6 : (List.range 256).all (fun i => bnOk (1536 + i)) = true := by decide +kernel
theorem bnOk_7 : (List.range 256).all (fun i => bnOk (1792 + i)) = true := by decide +kernel
theorem bnOk_8 : (List.range 256).all (fun i => bnOk (2048 + i)) = true := by decide +kernel
theorem bnOk_9 : (List.range 256).all (fun i => bnOk (2304 + i)) = true := by decide +kernel
theorem bnOk_10 : (List.range 256).all (fun i => bnOk (2560 + i)) = true := by decide +kernel
theorem bnOk_11 : (List.range 256).all (fun i => bnOk (2816 + i)) = true := by decide +kernel
theorem bnOk_12 : (List.range 256).all (fun i => bnOk (3072 + i)) = true := by decide +kernel
theorem bnOk_13 : (List.range 256).all (fun i => bnOk (3328 + i)) = true := by decide +kernel
theorem bnOk_14 : (List.range 256).all (fun i => bnOk (3584 + i)) = true := by decide +kernel
theorem bnOk_15 : (List.range 256).all (fun i => bnOk (3840 + i)) = true := by decide +kernel
theorem bnOk_16 : (List.range 256).all (fun i => bnOk (4096 + i)) = true := by decide +kernel
theorem bnOk_17 : (List.range 256).all (fun i => bnOk (4352 + i)) = true := by decide +kernel
theorem bnOk_18 : (List.range 256).all (fun i => bnOk (4608 + i)) = true := by decide +kernel
theorem bnOk_19 : (List.range 256).all (fun i => bnOk (4864 + i)) = true := by decide +kernel
theorem bnOk_20 : (List.range 256).all (fun i => bnOk (5120 + i)) = true := by decide +kernel
theorem bnOk_21 : (List.range 256).all (fun i => bnOk (5376 + i)) = true := by decide +kernel
theorem bnOk_22 : (List.range 256).all (fun i => bnOk (5632 + i)) = true := by decide +kernel
theorem bnOk_23 : (List.range 256).all (fun i => bnOk (5888 + i)) = true := by decide +kernel
theorem bnOk_24 : (List.range 256).all (fun i => bnOk (6144 + i)) = true := by decide +kernel
theorem bnOk_25 : (List.range 256).all (fun i => bnOk (6400 + i)) = true := by decide +kernel
theorem bnOk_26 : (List.range 256).all (fun i => bnOk (6656 + i)) = true := by decide +kernel
theorem bnOk_27 : (List.range 256).all (fun i => bnOk (6912 + i)) = true := by decide +kernel
theorem bnOk_28 : (List.range 256).all (fun i => bnOk (7168 + i)) = true := by decide +kernel
theorem bnOk_29 : (List.range 256).all (fun i => bnOk (7424 + i)) = true := by decide +kernel
theorem bnOk_30 : (List.range 256).all (fun i => bnOk (7680 + i)) = true := by decide +kernel
theorem bnOk_31 : (List.range 256).all (fun i => bnOk (7936 + i)) = true := by decide +kernel
theorem bnOk_all {s : Nat} (hs : s < 8192) : bnOk s = true := by
  have key : ∀ k, (List.range 256).all (fun i => bnOk (256 * k + i)) = true → s / 256 = k → bnOk s = true := fun k hk e => by
    have := List.all_eq_true.mp hk (s % 256) (List.mem_range.mpr (Nat.mod_lt _ (by decide)))
    rw [show 256 * k + s % 256 = s by omega] at this
    exact this
  have h : s / 256 < 32 := by omega
  have hc : s / 256 = 0 ∨ s / 256 = 1 ∨ s / 256 = 2 ∨ s / 256 = 3 ∨ s / 256 = 4 ∨ s / 256 = 5 ∨ s / 256 = 6 ∨ s / 256 = 7 ∨ s / 256 = 8 ∨ s / 256 = 9 ∨ s / 256 = 10 ∨ s / 256 = 11 ∨ s / 256 = 12 ∨ s / 256 = 13 ∨ s / 256 = 14 ∨ s / 256 = 15 ∨ s / 256 = 16 ∨ s / 256 = 17 ∨ s / 256 = 18 ∨ s / 256 = 19 ∨ s / 256 = 20 ∨ s / 256 = 21 ∨ s / 256 = 22 ∨ s / 256 = 23 ∨ s / 256 = 24 ∨ s / 256 = 25 ∨ s / 256 = 26 ∨ s / 256 = 27 ∨ s / 256 = 28 ∨ s / 256 = 29 ∨ s / 256 = 30 ∨ s / 256 = 31 := by omega
  rcases hc with h | h | h | h | h | h | h | h | h | h | h | h | h | h | h | h | h | h | h | h | h | h | h | h | h | h | h | h | h | h | h | h
  · exact key 0 bnOk_0 h
  · exact key 1 bnOk_1 h
  · exact key 2 bnOk_2 h
  · exact key 3 bnOk_3 h
  · exact key 4 bnOk_4 h
  · exact key 5 bnOk_5 h
  · exact key 6 bnOk_6 h
  · exact key 7 bnOk_7 h
  · exact key 8 bnOk_8 h
  · exact key 9 bnOk_9 h
  · exact key 10 bnOk_10 h
  · exact key 11 bnOk_11 h
  · exact key 12 bnOk_12 h
  · exact key 13 bnOk_13 h
  · exact key 14 bnOk_14 h
  · exact key 15 bnOk_15 h
  · exact key 16 bnOk_16 h
  · exact key 17 bnOk_17 h
  · exact key 18 bnOk_18 h
  · exact key 19 bnOk_19 h
  · exact key 20 bnOk_20 h
  · exact key 21 bnOk_21 h
  · exact key 22 bnOk_22 h
  · exact key 23 bnOk_23 h
  · exact key 24 bnOk_24 h
  · exact key 25 bnOk_25 h
  · exact key 26 bnOk_26 h
  · exact key 27 bnOk_27 h
  · exact key 28 bnOk_28 h
  · exact key 29 bnOk_29 h
  · exact key 30 bnOk_30 h
  · exact key 31 bnOk_31 h
theorem bnOk_spec {s : Nat} (hs : s < 8192) : bnF s = pcN s ∧ pcN s ≤ 13 ∧ (s ≠ 0 → 0 < pcN s) := by
  have := bnOk_all hs
  unfold bnOk at this
  simp only [Bool.and_eq_true, Bool.or_eq_true, Nat.beq_eq, Nat.ble_eq] at this
  exact ⟨this.1.1, this.1.2, fun z => by rcases this.2 with q | q <;> omega⟩
theorem bcF_small (s : Nat) (hs : s < 8192) : bcF (nI s) = nI (pcN s) := by rw [bcF_nat hs, (bnOk_spec hs).1]
theorem pcN_pos (s : Nat) (hs : s < 8192) (h : s ≠ 0) : 0 < pcN s := (bnOk_spec hs).2.2 h
theorem pcN_le (s : Nat) (hs : s < 8192) : pcN s ≤ 13 := (bnOk_spec hs).2.1
theorem nth_found {s : Nat} : ∀ d t k, k < cntN s d t → t ≤ nthN s d t k ∧ nthN s d t k < t + d ∧ s.testBit (nthN s d t k) = true
  | 0, _, _, h => absurd h (Nat.not_lt_zero _)
  | d + 1, t, k, h => by
    unfold nthN
    unfold cntN at h
    by_cases c : s.testBit t = true
    · rw [if_pos c] at h ⊢
      by_cases c0 : k = 0
      · rw [if_pos c0]; exact ⟨Nat.le_refl _, by omega, c⟩
      · rw [if_neg c0]
        have := nth_found (s := s) d (t + 1) (k - 1) (by omega)
        exact ⟨by omega, by omega, this.2.2⟩
    · rw [if_neg c] at h ⊢
      have := nth_found (s := s) d (t + 1) k (by omega)
      exact ⟨by omega, by omega, this.2.2⟩
theorem cntN_snoc {s : Nat} : ∀ d t, cntN s (d + 1) t = cntN s d t + (if s.testBit (t + d) then 1 else 0)
  | 0, t => by simp [cntN]
  | d + 1, t => by
    show (if s.testBit t then 1 else 0) + cntN s (d + 1) (t + 1) = (if s.testBit t then 1 else 0) + cntN s d (t + 1) + _
    rw [cntN_snoc d (t + 1), show t + 1 + d = t + (d + 1) by omega]
    omega
theorem cntN_zero {s n : Nat} (h : ∀ i, n ≤ i → i < 32 → s.testBit i = false) : ∀ e, n + e ≤ 32 → cntN s (n + e) 0 = cntN s n 0
  | 0, _ => rfl
  | e + 1, he => by
    rw [show n + (e + 1) = (n + e) + 1 by omega, cntN_snoc, cntN_zero h e (by omega), Nat.zero_add, h (n + e) (by omega) (by omega)]
    simp
theorem pcN_cnt {s n : Nat} (hn : n ≤ 13) (hs : s < 2 ^ n) : pcN s = cntN s n 0 := by
  have hz := cntN_zero (s := s) (n := n) (fun i h1 h2 => Nat.testBit_lt_two_pow (Nat.lt_of_lt_of_le hs (Nat.pow_le_pow_right (by decide) h1))) (13 - n) (by omega)
  rw [show n + (13 - n) = 13 by omega] at hz
  exact hz
theorem nth_ok (n : Nat) (hn : n < 11) (s : Nat) (hs : s < 2 ^ n) (k : Nat) (hk : k < pcN s) : nthN s n 0 k < n ∧ s.testBit (nthN s n 0 k) = true := by
  rw [pcN_cnt (by omega) hs] at hk
  have := nth_found n 0 k hk
  exact ⟨by omega, this.2.2⟩
theorem nthG_N {s : Nat} : ∀ d t k, k < 2 ^ 31 → t + d ≤ 32 → nthN s d t k ≠ 99 → nthG (nI s) d t (nI k) = nI (nthN s d t k)
  | 0, _, _, _, _, h => absurd rfl h
  | d + 1, t, k, hk, ht, h => by
    unfold nthG nthN at *
    rw [bit1_nI (by omega)]
    by_cases c : s.testBit t = true
    · rw [if_pos c] at h
      rw [if_pos c, if_pos c, if_pos rfl]
      by_cases c0 : k = 0
      · rw [if_pos c0] at h ⊢; subst c0; rw [if_pos (by rfl)]
      · rw [if_neg c0] at h ⊢
        rw [if_neg (nI_ne0 (by omega) hk)]
        have e : nI k + -1 = nI (k - 1) := by
          obtain ⟨k', rfl⟩ : ∃ k', k = k' + 1 := ⟨k - 1, by omega⟩
          exact pk_m1 k'
        rw [e]
        exact nthG_N d (t + 1) (k - 1) (by omega) (by omega) h
    · rw [if_neg c] at h
      rw [if_neg c, if_neg c, if_neg (by decide)]
      exact nthG_N d (t + 1) k hk (by omega) h
theorem clothF_bt {A : Vs} {p : Int32} {i : Nat} (hn : nT A ≤ 32) (hi : i < 32) : bt (clothF A p) i = decide (i < nT A ∧ A 9 i = 2 ∧ A 10 i = p) := lp_bits (c := fun t => A 9 t = 2 ∧ A 10 t = p) hn hi
theorem clothF_small {A : Vs} (B : Bd A) (p : Int32) : ∃ s, s < 2 ^ nT A ∧ clothF A p = nI s := by
  have h10 := B.2.2.2
  exact small_of_bits (by omega) (fun i hi hz => by rw [clothF_bt (by omega) hi]; simp; omega)
theorem dr_small (x : Int32) : ∃ d, d < 32768 ∧ drF x = nI d := by
  obtain ⟨j, hj, e⟩ := pk_andE (us (sdF x) 16) (m := 32767) 15 (by decide)
  exact ⟨j, hj, e⟩
theorem rm_nI {a b : Nat} (ha : a < 2 ^ 31) (h0 : 0 < b) (hb : b < 2 ^ 31) : rm (nI a) (nI b) = nI (a % b) := pk_rem ha h0 hb
theorem pow_le {n : Nat} (h : n ≤ 10) : 2 ^ n ≤ 1024 := Nat.pow_le_pow_right (by decide) h
theorem felt_spec {A : Vs} (B : Bd A) {p : Nat} (hc : clothF A (nI p) ≠ 0) : ∃ s k t, s < 2 ^ nT A ∧ clothF A (nI p) = nI s ∧ s ≠ 0 ∧ rm (drF (A 0 5)) (bcF (clothF A (nI p))) = nI k ∧ k < pcN s ∧ t = nthN s (nT A) 0 k ∧ t < nT A ∧ feltF A p = nI t ∧ A 9 t = 2 ∧ A 10 t = nI p := by
  have h10 := B.2.2.2
  obtain ⟨s, hs, e⟩ := clothF_small B (nI p)
  have h1024 := pow_le h10
  have s0 : s ≠ 0 := fun z => hc (by rw [e, z]; rfl)
  obtain ⟨d, hd, ed⟩ := dr_small (A 0 5)
  have hp0 := pcN_pos s (by omega) s0
  have hp13 := pcN_le s (by omega)
  have ek : rm (drF (A 0 5)) (bcF (clothF A (nI p))) = nI (d % pcN s) := by rw [e, bcF_small s (by omega), ed, rm_nI (by omega) hp0 (by omega)]
  have hk : d % pcN s < pcN s := Nat.mod_lt _ hp0
  obtain ⟨q1, q2⟩ := nth_ok (nT A) (by omega) s hs _ hk
  have hb : bt (clothF A (nI p)) (nthN s (nT A) 0 (d % pcN s)) = true := by rw [e, bt_nI (by omega)]; exact q2
  rw [clothF_bt (by omega) (by omega)] at hb
  have hb := of_decide_eq_true hb
  refine ⟨s, d % pcN s, _, hs, e, s0, ek, hk, rfl, q1, ?_, hb.2.1, hb.2.2⟩
  unfold feltF
  rw [ek, e]
  exact nthG_N _ _ _ (by omega) (by omega) (by omega)
theorem succG_spec {A : Vs} (R : Hr A) (h7 : nP A ≤ 7) {p : Int32} : ∀ d o, (o = -1 ∨ ∃ q, q < nP A ∧ o = nI q) → succG A p d o = -1 ∨ ∃ q, q < nP A ∧ succG A p d o = nI q ∧ nI q ≠ p ∧ A 5 q = 1
  | 0, _, _ => Or.inl rfl
  | d + 1, o, ho => by
    unfold succG
    by_cases c : o = -1
    · rw [if_pos c]; exact Or.inl rfl
    · rw [if_neg c]
      rcases ho with ho | ⟨q, hq, rfl⟩
      · exact absurd ho c
      · rw [nI_clamp (by omega)]
        by_cases e : nI q ≠ p ∧ A 5 q = 1
        · rw [if_pos e]; exact Or.inr ⟨q, hq, rfl, e.1, e.2⟩
        · rw [if_neg e]; exact succG_spec R h7 d _ (R q hq)
theorem succF_spec {A : Vs} (W : Wf A) {p : Nat} (hp : p < nP A) : succF A p = -1 ∨ ∃ q, q < nP A ∧ succF A p = nI q ∧ q ≠ p ∧ A 5 q = 1 := by
  have h7 := W.1.2.1
  unfold succF
  split
  · exact Or.inl rfl
  · rcases succG_spec W.2.1 h7 (p := nI p) (nP A) _ (W.2.1 p hp) with h | ⟨q, h1, h2, h3, h4⟩
    · exact Or.inl h
    · exact Or.inr ⟨q, h1, h2, fun z => h3 (by rw [z]), h4⟩
def Kp (A A' : Vs) : Prop := nP A' = nP A ∧ nT A' = nT A
theorem Kp.log {A : Vs} {a0 a1 a2 a3 a4 : Int32} : Kp A (logA A a0 a1 a2 a3 a4) := ⟨by unfold nP; rw [logA_lo (by omega)], by unfold nT; rw [logA_lo (by omega)]⟩
theorem Kp.mv {A : Vs} {t : Nat} {w x : Int32} : Kp A (mvA A t w x) := ⟨by unfold nP; rw [mvA_ne (by omega)], by unfold nT; rw [mvA_ne (by omega)]⟩
theorem Kp.up {A : Vs} {k j : Nat} {x : Int32} (h : ¬ (k = 0 ∧ j < 2)) : Kp A (up A k j x) := ⟨nP_up (by omega), nT_up (by omega)⟩
theorem Kp.tr {A B C : Vs} (x : Kp A B) (y : Kp B C) : Kp A C := ⟨y.1.trans x.1, y.2.trans x.2⟩
theorem Kp.rf {A : Vs} : Kp A A := ⟨rfl, rfl⟩
theorem Wf.let1 {A : Vs} (W : Wf A) (T : Tt) {p : Nat} (hp : p < nP A) : Wf (letS T p A) ∧ Kp A (letS T p A) := by
  unfold letS
  split
  · rename_i c
    split
    · exact ⟨W, Kp.rf⟩
    · split
      · exact ⟨W, Kp.rf⟩
      · exact ⟨(W.mv (Or.inr ⟨Or.inr rfl, p, hp, rfl, c⟩) (fun z => absurd z (by decide))).log _ _ _ _ _, Kp.mv.tr Kp.log⟩
  · exact ⟨W, Kp.rf⟩
theorem Wf.feel1 {A : Vs} (W : Wf A) (T : Tt) {p : Nat} (hp : p < nP A) : Wf (feelS T p A) ∧ Kp A (feelS T p A) := by
  unfold feelS
  split
  · rename_i c
    split
    · exact ⟨W, Kp.rf⟩
    · split
      · rename_i c1 c2
        have W1 := W.up0 (j := 5) (by omega) (sdF (A 0 5))
        split
        · exact ⟨W1.log _ _ _ _ _, (Kp.up (by omega)).tr Kp.log⟩
        · refine ⟨(W1.mv (Or.inr ⟨Or.inl rfl, p, ?_, rfl, ?_⟩) (fun _ u hu _ h1 => ?_)).log _ _ _ _ _, ((Kp.up (by omega)).tr Kp.mv).tr Kp.log⟩
          · rw [nP_up (by omega)]; exact hp
          · rw [up_ne (by omega)]; exact c
          · rcases holdF_spec A (nI p) with ⟨-, h⟩ | ⟨w, hw, e, -⟩
            · rw [up_ne (by omega)] at h1 ⊢
              exact fun h2 => h u (by rw [nT_up (by omega)] at hu; exact hu) ⟨h1, h2⟩
            · rw [e] at c2; exact absurd c2 (m1_ne (by have := W.1.2.2.2; omega))
      · exact ⟨W, Kp.rf⟩
  · exact ⟨W, Kp.rf⟩
theorem dS_ne {p held nx : Int32} {t k j : Nat} {A : Vs} (h : j ≠ t ∨ (k ≠ 8 ∧ k ≠ 9 ∧ k ≠ 10)) : dS p held nx t A k j = A k j := by
  unfold dS
  split
  · rw [mvA_ne (by omega), up_ne (by omega)]
  · split
    · rw [mvA_ne (by omega)]
    · rfl
theorem dS_congr {p held nx : Int32} {t : Nat} {A A' : Vs} (e : ∀ k, A' k t = A k t) (k : Nat) : dS p held nx t A' k t = dS p held nx t A k t := by
  unfold dS
  rw [e 8, e 10]
  split
  · by_cases k9 : k = 9
    · subst k9; rw [mvA_9, mvA_9]
    · by_cases k10 : k = 10
      · subst k10; rw [mvA_10, mvA_10]
      · rw [mvA_ne (by omega), mvA_ne (by omega)]
        by_cases k8 : k = 8
        · subst k8; rw [up_same, up_same]
        · rw [up_ne (by omega), up_ne (by omega)]; exact e k
  · split
    · by_cases k9 : k = 9
      · subst k9; rw [mvA_9, mvA_9]
      · by_cases k10 : k = 10
        · subst k10; rw [mvA_10, mvA_10]
        · rw [mvA_ne (by omega), mvA_ne (by omega)]; exact e k
    · exact e k
theorem lp_dS {p held nx : Int32} {A : Vs} : ∀ n k j, lp (dS p held nx) n A k j = if j < n then dS p held nx j A k j else A k j
  | 0, k, j => by rw [if_neg (by omega)]; rfl
  | n + 1, k, j => by
    show dS p held nx n (lp (dS p held nx) n A) k j = _
    by_cases hj : j = n
    · subst hj
      rw [if_pos (by omega)]
      exact dS_congr (fun k => by rw [lp_dS j k j, if_neg (by omega)]) k
    · rw [dS_ne (Or.inl hj), lp_dS n k j]
      by_cases h1 : j < n
      · rw [if_pos h1, if_pos (by omega)]
      · rw [if_neg h1, if_neg (by omega)]
theorem dS_8 {p held nx : Int32} {t : Nat} {A : Vs} : dS p held nx t A 8 t = if A 8 t = p then (if nI t = held then nx else -1) else A 8 t := by
  unfold dS
  split
  · rw [mvA_ne (by omega), up_same]
  · split
    · rw [mvA_ne (by omega)]
    · rfl
theorem dS_9 {p held nx : Int32} {t : Nat} {A : Vs} : dS p held nx t A 9 t = if A 8 t = p ∨ A 10 t = p then 0 else A 9 t := by
  unfold dS
  by_cases c : A 8 t = p
  · rw [if_pos c, if_pos (Or.inl c), mvA_9]
  · rw [if_neg c]
    by_cases d : A 10 t = p
    · rw [if_pos d, if_pos (Or.inr d), mvA_9]
    · rw [if_neg d, if_neg (by rintro (z | z); exact c z; exact d z)]
theorem dS_10 {p held nx : Int32} {t : Nat} {A : Vs} : dS p held nx t A 10 t = if A 8 t = p ∨ A 10 t = p then -1 else A 10 t := by
  unfold dS
  by_cases c : A 8 t = p
  · rw [if_pos c, if_pos (Or.inl c), mvA_10]
  · rw [if_neg c]
    by_cases d : A 10 t = p
    · rw [if_pos d, if_pos (Or.inr d), mvA_10]
    · rw [if_neg d, if_neg (by rintro (z | z); exact c z; exact d z)]
def deadA (A : Vs) (p : Nat) : Vs := up (lp (dS (nI p) (holdF A (nI p)) (succF A p)) (nT A) A) 5 p 0
theorem deadA_lo {A : Vs} {p k j : Nat} (h : (k < 8 ∨ 11 ≤ k) ∧ ¬ (k = 5 ∧ j = p)) : deadA A p k j = A k j := by
  unfold deadA
  rw [up_ne (by omega), lp_dS]
  split
  · exact dS_ne (by omega)
  · rfl
theorem Kp.dead {A : Vs} {p : Nat} : Kp A (deadA A p) := ⟨by unfold nP; rw [deadA_lo (by omega)], by unfold nT; rw [deadA_lo (by omega)]⟩
theorem Wf.dead {A : Vs} (W : Wf A) {p : Nat} (hp : p < nP A) : Wf (deadA A p) := by
  have sc := succF_spec W hp
  obtain ⟨B, R, P, T, U, L7, L6⟩ := W
  have h7 := B.2.1
  have hP : nP (deadA A p) = nP A := Kp.dead.1
  have hT : nT (deadA A p) = nT A := Kp.dead.2
  have hL : ∀ y, Lv A y → y ≠ nI p → Lv (deadA A p) y := fun y ⟨q, h1, h2, h3⟩ hne => ⟨q, by rw [hP]; exact h1, h2, by rw [deadA_lo ⟨Or.inl (by omega), fun z => hne (by rw [h2, z.2])⟩]; exact h3⟩
  have row : ∀ k t, t < nT A → k ≠ 5 → deadA A p k t = dS (nI p) (holdF A (nI p)) (succF A p) t A k t := fun k t ht hk => by
    unfold deadA; rw [up_ne (fun z => hk z.1), lp_dS, if_pos ht]
  refine ⟨?_, ?_, fun q hq => ?_, fun t ht => ?_, ?_, by rw [deadA_lo (by omega)]; exact L7, by rw [deadA_lo (by omega)]; exact L6⟩
  · unfold Bd; rw [hP, hT, deadA_lo (by omega), deadA_lo (by omega)]; exact B
  · unfold Hr; rw [hP]; intro q hq; rw [deadA_lo (by omega)]; exact R q hq
  · rw [hP] at hq; have := P q hq
    unfold WfP at this ⊢
    rw [deadA_lo (by omega : (4 < 8 ∨ 11 ≤ 4) ∧ ¬ (4 = 5 ∧ q = p)), deadA_lo (by omega : (1 < 8 ∨ 11 ≤ 1) ∧ ¬ (1 = 5 ∧ q = p)), deadA_lo (by omega : (2 < 8 ∨ 11 ≤ 2) ∧ ¬ (2 = 5 ∧ q = p))]
    refine ⟨this.1, ?_, this.2.2⟩
    by_cases z : q = p
    · subst z; unfold deadA; rw [up_same]; exact Or.inl rfl
    · rw [deadA_lo ⟨Or.inl (by omega), fun y => z y.2⟩]; exact this.2.1
  · rw [hT] at ht; have := T t ht
    unfold WfT at this ⊢
    rw [row 8 t ht (by omega), row 9 t ht (by omega), row 10 t ht (by omega), deadA_lo (by omega : (6 < 8 ∨ 11 ≤ 6) ∧ ¬ (6 = 5 ∧ t = p)), deadA_lo (by omega : (7 < 8 ∨ 11 ≤ 7) ∧ ¬ (7 = 5 ∧ t = p)), dS_8, dS_9, dS_10]
    refine ⟨?_, ?_, this.2.2⟩
    · by_cases c : A 8 t = nI p
      · rw [if_pos c]
        split
        · rcases sc with s | ⟨q, q1, q2, q3, q4⟩
          · exact Or.inl s
          · exact Or.inr (by rw [q2]; exact hL _ ⟨q, q1, rfl, q4⟩ (fun z => q3 ((nI_eq (by omega) (by omega)).mp z)))
        · exact Or.inl rfl
      · rw [if_neg c]; exact this.1.imp id (fun z => hL _ z c)
    · by_cases c : A 8 t = nI p ∨ A 10 t = nI p
      · rw [if_pos c, if_pos c]; exact Or.inl ⟨rfl, rfl⟩
      · rw [if_neg c, if_neg c]; exact this.2.1.imp id (fun z => ⟨z.1, hL _ z.2 (fun y => c (Or.inr y))⟩)
  · unfold Un; rw [hT]; intro t u ht hu
    rw [row 9 t ht (by omega), row 10 t ht (by omega), row 9 u hu (by omega), row 10 u hu (by omega), dS_9, dS_10, dS_9, dS_10]
    intro h1 h2 h3
    by_cases ct : A 8 t = nI p ∨ A 10 t = nI p
    · rw [if_pos ct] at h1; exact absurd h1 (by decide)
    · by_cases cu : A 8 u = nI p ∨ A 10 u = nI p
      · rw [if_pos cu] at h2; exact absurd h2 (by decide)
      · rw [if_neg ct] at h1 h3; rw [if_neg cu] at h2 h3; exact U t u ht hu h1 h2 h3
theorem dieF_eq {A : Vs} {p : Nat} : dieF A p = logA (deadA A p) (A 0 2) (nI p) 3 (holdF A (nI p)) (A 1 p) := rfl
theorem Wf.age1 {A : Vs} (W : Wf A) {p : Nat} (hp : p < nP A) : Wf (ageF A p) ∧ Kp A (ageF A p) := by
  unfold ageF
  split
  · obtain ⟨a, ha, e⟩ := (W.2.2.1 p hp).2.2.1
    refine ⟨W.upP (by omega) (fun _ => ⟨min (a + 1) 99, by omega, ?_⟩) (fun z => absurd z (by decide)) (fun z => absurd z (by decide)) (fun z => absurd z (by decide)), Kp.up (by omega)⟩
    rw [e, nI_1]; exact imin_nI (by omega) (by decide)
  · exact ⟨W, Kp.rf⟩
theorem Wf.wake1 {A : Vs} (W : Wf A) (T : Tt) {p : Nat} (hp : p < nP A) : Wf (wakeS T p A) ∧ Kp A (wakeS T p A) := by
  unfold wakeS
  split
  · obtain ⟨W1, K1⟩ := W.age1 hp
    have W2 := W1.up0 (j := 5) (by omega) (sdF (A 0 5))
    have K2 : Kp A (up (ageF A p) 0 5 (sdF (A 0 5))) := K1.tr (Kp.up (by omega))
    split
    · exact ⟨W2, K2⟩
    · rw [dieF_eq]
      exact ⟨(W2.dead (by rw [K2.1]; exact hp)).log _ _ _ _ _, (K2.tr Kp.dead).tr Kp.log⟩
  · exact ⟨W, Kp.rf⟩
theorem Wf.loop {A : Vs} {f : Nat → Vs → Vs} (W : Wf A) (hs : ∀ t A', t < nP A → Wf A' → nP A' = nP A → Wf (f t A') ∧ Kp A' (f t A')) (t : Nat) (ht : t ≤ nP A) : Wf (lp f t A) ∧ Kp A (lp f t A) :=
  lp_inv (I := fun A' => Wf A' ∧ Kp A A') ⟨W, Kp.rf⟩ (fun t a' ht h => ⟨(hs t a' ht h.1 h.2.1).1, h.2.tr (hs t a' ht h.1 h.2.1).2⟩) t ht
theorem Wf.let' {A : Vs} (W : Wf A) (T : Tt) (t : Nat) (ht : t ≤ nP A) : Wf (lp (letS T) t A) ∧ Kp A (lp (letS T) t A) := W.loop (fun t A' h1 h2 h3 => h2.let1 T (by rw [h3]; exact h1)) t ht
theorem Wf.feel' {A : Vs} (W : Wf A) (T : Tt) (t : Nat) (ht : t ≤ nP A) : Wf (lp (feelS T) t A) ∧ Kp A (lp (feelS T) t A) := W.loop (fun t A' h1 h2 h3 => h2.feel1 T (by rw [h3]; exact h1)) t ht
theorem Wf.wake' {A : Vs} (W : Wf A) (T : Tt) (t : Nat) (ht : t ≤ nP A) : Wf (lp (wakeS T) t A) ∧ Kp A (lp (wakeS T) t A) := W.loop (fun t A' h1 h2 h3 => h2.wake1 T (by rw [h3]; exact h1)) t ht
theorem Wf.night {A : Vs} (W : Wf A) : Wf (nightF A) ∧ Kp A (nightF A) := ⟨W.up0 (by omega) _, Kp.up (by omega)⟩
theorem Wf.pass {A : Vs} (W : Wf A) (T : Tt) : ∀ n, Wf (passF T n A) ∧ Kp A (passF T n A)
  | 0 => ⟨W, Kp.rf⟩
  | n + 1 => by
    obtain ⟨W0, K0⟩ := W.pass T n
    obtain ⟨W1, K1⟩ := W0.let' T _ (Nat.le_refl _)
    obtain ⟨W2, K2⟩ := W1.feel' T _ (Nat.le_refl _)
    obtain ⟨W3, K3⟩ := W2.wake' T _ (Nat.le_refl _)
    exact ⟨W3.night.1, (((K0.tr K1).tr K2).tr K3).tr W3.night.2⟩
theorem Wf.calm {A : Vs} (W : Wf A) (T : Tt) : ∀ n, Wf (calmF T n A) ∧ Kp A (calmF T n A)
  | 0 => ⟨W, Kp.rf⟩
  | n + 1 => by
    obtain ⟨W0, K0⟩ := W.calm T n
    obtain ⟨W1, K1⟩ := W0.let' T _ (Nat.le_refl _)
    exact ⟨W1.night.1, (K0.tr K1).tr W1.night.2⟩
