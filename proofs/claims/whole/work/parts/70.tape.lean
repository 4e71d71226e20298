/-! ===== the tape; rows told on it ===== -/
def sx (k : Nat) : Int32 := if k < 128 then nI k else nI k - 256
theorem sx_lo {k : Nat} (h : k < 128) : sx k = nI k := by unfold sx; rw [if_pos h]
theorem sx_all : ∀ k, k < 256 → (128 ≤ k → sx k < 0) := by decide +kernel
def TpC (h : Hp) (x : Nat) (b : Nat → Nat) (n u : Nat) : Prop := h.1 (x + 1) = (6, 3) ∧ h.1 (x + 2) = (101, 400) ∧ h.2.1 (x + 1) 0 = .ref (x + 2) ∧ h.2.1 (x + 1) 1 = .int (nI n) ∧ h.2.1 (x + 1) 2 = .int (nI u) ∧ (n ≤ 400 ∧ u ≤ 400) ∧ ∀ j, j < 400 → b j < 256 ∧ h.2.1 (x + 2) j = .int (nI (b j))
def TpM (h : Hp) (m : Nat) (b : Nat → Nat) (n e : Nat) : Prop := h.1 m = (11, 25) ∧ h.1 (m + 6) = (103, 400) ∧ h.2.1 m 8 = .ref (m + 6) ∧ h.2.1 m 9 = .int (nI n) ∧ h.2.1 m 11 = .int (nI e) ∧ (n ≤ 400 ∧ e ≤ 400) ∧ ∀ j, j < 400 → b j < 256 ∧ h.2.1 (m + 6) j = .int (sx (b j))
def tP (x : Nat) : Nat → Nat → Prop := fun a j => a = x + 1 ∧ 1 ≤ j
def mT (m : Nat) : Nat → Nat → Prop := fun a j => a = m ∧ 9 ≤ j ∧ j ≤ 11
def rowG (ok : Nat → Nat → Bool) (b : Nat → Nat) : Nat → Nat → Int32
  | 0, _ => 1
  | d + 1, i => if ok (b i) (b (i + 1)) = true then rowG ok b d (i + 2) else 0
def rowF (ok : Nat → Nat → Bool) (b : Nat → Nat) (u : Nat) : Int32 := if 40 < u then 0 else if u % 2 = 0 then rowG ok b (u / 2) 0 else 0
theorem rowG_ok {ok : Nat → Nat → Bool} {b : Nat → Nat} : ∀ d i, rowG ok b d i = 1 → ∀ k, k < d → ok (b (i + 2 * k)) (b (i + 2 * k + 1)) = true
  | 0, _, _, k, hk => absurd hk (Nat.not_lt_zero _)
  | d + 1, i, e, k, hk => by
    unfold rowG at e
    split at e
    · rename_i c
      cases k with
      | zero => exact c
      | succ k =>
        have := rowG_ok d (i + 2) e k (by omega)
        rw [show i + 2 * (k + 1) = i + 2 + 2 * k by omega]; exact this
    · exact absurd e (by decide)
theorem rowG_01 {ok : Nat → Nat → Bool} {b : Nat → Nat} : ∀ d i, rowG ok b d i = 0 ∨ rowG ok b d i = 1
  | 0, _ => Or.inr rfl
  | d + 1, i => by
    unfold rowG
    split
    · exact rowG_01 d (i + 2)
    · exact Or.inl rfl
theorem rowF_01 {ok : Nat → Nat → Bool} {b : Nat → Nat} {u : Nat} : rowF ok b u = 0 ∨ rowF ok b u = 1 := by
  unfold rowF
  split
  · exact Or.inl rfl
  · split
    · exact rowG_01 _ _
    · exact Or.inl rfl
theorem rowF_ok {ok : Nat → Nat → Bool} {b : Nat → Nat} {u : Nat} (e : rowF ok b u = 1) : u ≤ 40 ∧ u % 2 = 0 ∧ ∀ i, i % 2 = 0 → i < u → ok (b i) (b (i + 1)) = true := by
  unfold rowF at e
  split at e
  · exact absurd e (by decide)
  · rename_i c
    split at e
    · rename_i d
      refine ⟨by omega, d, fun i hi hu => ?_⟩
      have := rowG_ok _ _ e (i / 2) (by omega)
      rw [show 0 + 2 * (i / 2) = i by omega] at this
      exact this
    · exact absurd e (by decide)
def okT (a c : Nat) : Bool := decide (a < 3) && decide (c ≤ 99)
def okS (a c : Nat) : Bool := decide (1 ≤ a) && decide (a ≤ 12) && decide (c ≤ 1)
section TAPE
variable {G : Gx} {h h' : Hp} {x m : Nat} {b : Nat → Nat} {n u : Nat}
theorem TpC.kd (T : TpC h x b n u) : (h.1 (x + 1)).1 = 6 := by rw [T.1]
theorem TpC.f1 (T : TpC h x b n u) : fI h 6 (x + 1) 1 (nI n) := ⟨T.kd, T.2.2.2.1⟩
theorem TpC.f2 (T : TpC h x b n u) : fI h 6 (x + 1) 2 (nI u) := ⟨T.kd, T.2.2.2.2.1⟩
theorem TpC.r0 (T : TpC h x b n u) : fR h 6 (x + 1) 0 (x + 2) := ⟨T.kd, T.2.2.1⟩
theorem TpC.u400 (T : TpC h x b n u) : u ≤ 400 := T.2.2.2.2.2.1.2
theorem TpC.at (T : TpC h x b n u) {j : Nat} (hj : j < 400) : aI h 101 (x + 2) (nI j) (nI (b j)) := aI_of T.2.1 hj (by decide) (T.2.2.2.2.2.2 j hj).2
theorem TpC.keep (T : TpC h x b n u) {P : Nat → Nat → Prop} (F : Fs P h h') (n1 : ∀ a j, a = x + 1 ∨ a = x + 2 → ¬ P a j) : TpC h' x b n u := by
  have k : ∀ a j, a = x + 1 ∨ a = x + 2 → h'.2.1 a j = h.2.1 a j := fun a j z => F.2.2 a j (n1 a j z)
  obtain ⟨t1, t2, t3, t4, t5, t6, t7⟩ := T
  exact ⟨by rw [F.1]; exact t1, by rw [F.1]; exact t2, by rw [k _ _ (by omega)]; exact t3, by rw [k _ _ (by omega)]; exact t4, by rw [k _ _ (by omega)]; exact t5, t6, fun j hj => ⟨(t7 j hj).1, by rw [k _ _ (by omega)]; exact (t7 j hj).2⟩⟩
theorem TpM.keep (T : TpM h m b n u) {P : Nat → Nat → Prop} (F : Fs P h h') (n1 : ∀ a j, (a = m ∧ (j = 8 ∨ j = 9 ∨ j = 11)) ∨ a = m + 6 → ¬ P a j) : TpM h' m b n u := by
  have k : ∀ a j, (a = m ∧ (j = 8 ∨ j = 9 ∨ j = 11)) ∨ a = m + 6 → h'.2.1 a j = h.2.1 a j := fun a j z => F.2.2 a j (n1 a j z)
  obtain ⟨t1, t2, t3, t4, t5, t6, t7⟩ := T
  exact ⟨by rw [F.1]; exact t1, by rw [F.1]; exact t2, by rw [k _ _ (by omega)]; exact t3, by rw [k _ _ (by omega)]; exact t4, by rw [k _ _ (by omega)]; exact t5, t6, fun j hj => ⟨(t7 j hj).1, by rw [k _ _ (by omega)]; exact (t7 j hj).2⟩⟩
theorem TpM.kd (T : TpM h m b n u) : (h.1 m).1 = 11 := by rw [T.1]
theorem TpM.f11 (T : TpM h m b n u) : fI h 11 m 11 (nI u) := ⟨T.kd, T.2.2.2.2.1⟩
theorem TpM.f9 (T : TpM h m b n u) : fI h 11 m 9 (nI n) := ⟨T.kd, T.2.2.2.1⟩
theorem TpM.r8 (T : TpM h m b n u) : fR h 11 m 8 (m + 6) := ⟨T.kd, T.2.2.1⟩
theorem TpM.u400 (T : TpM h m b n u) : u ≤ 400 := T.2.2.2.2.2.1.2
theorem TpM.at (T : TpM h m b n u) {j : Nat} (hj : j < 400) : aI h 103 (m + 6) (nI j) (sx (b j)) := aI_of T.2.1 hj (by decide) (T.2.2.2.2.2.2 j hj).2
theorem t_at (hl : G.1.stackTraces = false) (T : TpC h x b n u) {i : Nat} (hi : i < u) : EvI G m_Ta_at [.ref (x + 1), .int (nI i)] h (nI (b i)) := by
  have := T.u400
  exact en_Ta_at h _ _ _ (e_Ta_at_0 hl h _ _ _ ⟨fun c => absurd c (nI_pos (by omega)), fun _ => ⟨_, T.f2, fun c => absurd c (nI_ge hi (by omega)), fun _ => ⟨_, T.r0, _, T.at (by omega), rfl, rfl⟩⟩⟩)
theorem t_useUp (hl : G.1.stackTraces = false) (hx : G.n0 ≤ x) (T : TpC h x b n u) : EvM G m_Ta_useUp [.ref (x + 1)] h (fun o h' => o = .inl none ∧ TpC h' x b 0 n ∧ Fs (tP x) h h') := by
  refine en_Ta_useUp h _ _ (e_Ta_useUp_0 hl h _ _ ⟨_, T.f1, ⟨by omega, T.kd⟩, e_Ta_useUp_8 hl _ _ _ ⟨⟨by omega, T.kd⟩, rfl, ?_, (Fs.rf.set ⟨rfl, by decide⟩).set ⟨rfl, by decide⟩⟩⟩)
  obtain ⟨t1, t2, t3, t4, t5, t6, t7⟩ := T
  exact ⟨t1, t2, by rw [hs_ne (by omega), hs_ne (by omega)]; exact t3, hs_eq, by rw [hs_ne (by omega), hs_eq], ⟨by omega, t6.1⟩, fun j hj => ⟨(t7 j hj).1, by rw [hs_ne (by omega), hs_ne (by omega)]; exact (t7 j hj).2⟩⟩
theorem o_uses (hl : G.1.stackTraces = false) (hm : G.n0 ≤ m) (T : TpM h m b n u) : EvM G m_Mo_uses [.ref m] h (fun o h' => o = .inl none ∧ TpM h' m b 0 n ∧ Fs (mT m) (hset h m 0 (.int 0)) h' ∧ h'.2.1 m 10 = .int 0) := by
  obtain ⟨t1, t2, t3, t4, t5, t6, t7⟩ := T
  have kd : (h.1 m).1 = 11 := by rw [t1]
  refine en_Mo_uses h _ _ (e_Mo_uses_0 hl h _ _ ⟨⟨hm, kd⟩, e_Mo_uses_5 hl _ _ _ ⟨nI n, ⟨kd, by rw [hs_ne (by omega)]; exact t4⟩, ⟨hm, kd⟩, e_Mo_uses_13 hl _ _ _ ⟨⟨hm, kd⟩, e_Mo_uses_18 hl _ _ _ ⟨⟨hm, kd⟩, rfl, ⟨t1, t2, ?_, ?_, ?_, ⟨by omega, t6.1⟩, fun j hj => ⟨(t7 j hj).1, ?_⟩⟩, ?_, hs_eq⟩⟩⟩⟩)
  · rw [hs_ne (by omega), hs_ne (by omega), hs_ne (by omega), hs_ne (by omega)]; exact t3
  · rw [hs_ne (by omega), hs_eq]; rfl
  · rw [hs_ne (by omega), hs_ne (by omega), hs_eq]
  · rw [hs_ne (by omega), hs_ne (by omega), hs_ne (by omega), hs_ne (by omega)]; exact (t7 j hj).2
  · exact ((Fs.rf.set ⟨rfl, by decide, by decide⟩).set ⟨rfl, by decide, by decide⟩).set ⟨rfl, by decide, by decide⟩
theorem rm2 {u : Nat} (hu : u ≤ 400) : nI u - nI u / 2 * 2 = nI (u % 2) := pk_rem (by omega) (by decide) (by decide)
theorem t_hasRows (hl : G.1.stackTraces = false) (T : TpC h x b n u) : EvI G m_Td_hasRows [.ref (x + 1)] h (if 40 < u then 0 else if u % 2 = 0 then 1 else 0) := by
  have hu := T.u400
  refine en_Td_hasRows h _ _ (e_Td_hasRows_0 hl h _ _ ⟨_, T.f2, fun c => ⟨?_, rfl⟩, fun c => ⟨_, T.f2, by decide, fun d => ⟨?_, rfl⟩, fun d => ⟨?_, rfl⟩⟩⟩)
  · rw [if_pos ((nI_ltI (a := 40) (by decide) (by omega)).mp c)]
  · rw [rm2 hu] at d
    rw [if_neg (fun z => c (nI_lt (a := 40) z (by omega))), if_neg (fun z => d (by rw [z]; rfl))]
  · rw [rm2 hu] at d
    have : u % 2 = 0 := (nI_eq (by omega) (by decide)).mp (show nI (u % 2) = nI 0 from d)
    rw [if_neg (fun z => c (nI_lt (a := 40) z (by omega))), if_pos this]
theorem t_tellsThings (hl : G.1.stackTraces = false) (T : TpC h x b n u) : EvI G m_Td_tellsThings [.ref (x + 1)] h (rowF okT b u) := by
  have hu := T.u400
  have by_ : ∀ j, j < 400 → b j < 256 := fun j hj => (T.2.2.2.2.2.2 j hj).1
  refine en_Td_tellsThings h _ _ (e_Td_tellsThings_0 hl h _ _ ⟨_, t_hasRows hl T, fun c => ?_, fun c => ⟨?_, rfl⟩⟩)
  · by_cases c1 : 40 < u
    · rw [if_pos c1] at c; exact absurd rfl c
    · rw [if_neg c1] at c
      by_cases c2 : u % 2 = 0
      · unfold rowF
        rw [if_neg c1, if_pos c2]
        suffices hh : ∀ d i, i + 2 * d = u → Ev G m_Td_tellsThings 11 [.ref (x + 1), .int (nI i)] [] h 0 0 (fun o h' => o = .inl (some (.int (rowG okT b d i))) ∧ h' = h) from hh (u / 2) 0 (by omega)
        intro d
        induction d with
        | zero =>
          intro i hi
          exact e_Td_tellsThings_11 hl h _ _ _ ⟨_, T.f2, fun _ => ⟨rfl, rfl⟩, fun c => absurd (by rw [← hi]; exact Int32.le_refl _) c⟩
        | succ d ih =>
          intro i hi
          have b0 := by_ i (by omega)
          have b1 := by_ (i + 1) (by omega)
          refine e_Td_tellsThings_11 hl h _ _ _ ⟨_, T.f2, fun c => absurd c (nI_ge (by omega) (by omega)), fun _ => ⟨T.kd, _, t_at hl T (i := i) (by omega), fun c => ⟨?_, rfl⟩, fun c => ⟨T.kd, nI (b (i + 1)), by rw [nI_1]; exact t_at hl T (by omega), fun e => ?_, fun e => ⟨?_, rfl⟩⟩⟩⟩
          · have := (nI_leI (a := 3) (by decide) (by omega)).mp c
            unfold rowG okT; rw [if_neg (by simp; omega)]
          · have q1 : b i < 3 := by
              rcases Nat.lt_or_ge (b i) 3 with q | q
              · exact q
              · exact absurd (nI_le (a := 3) q (by omega)) c
            have q2 := (nI_leI (b := 99) (by omega) (by decide)).mp e
            have := ih (i + 2) (by omega)
            rw [show nI i + 2 = nI (i + 2) from nI_add i 2]
            unfold rowG
            rw [if_pos (by unfold okT; simp [q1, q2])]
            exact this
          · unfold rowG okT
            rw [if_neg]
            simp
            intro _
            rcases Nat.lt_or_ge 99 (b (i + 1)) with q | q
            · exact q
            · exact absurd (nI_le (b := 99) q (by decide)) e
      · rw [if_neg c2] at c; exact absurd rfl c
  · unfold rowF
    by_cases c1 : 40 < u
    · rw [if_pos c1]
    · rw [if_neg c1] at c ⊢
      by_cases c2 : u % 2 = 0
      · rw [if_pos c2] at c; exact absurd c (by decide)
      · rw [if_neg c2]
theorem in_sx {k lo hi : Nat} (hk : k < 256) (hh : lo ≤ hi) (h1 : hi < 128) : (if sx k < nI lo then (0 : Int32) else if nI hi < sx k then 0 else 1) = if lo ≤ k ∧ k ≤ hi then 1 else 0 := by
  by_cases c : k < 128
  · rw [sx_lo c]
    by_cases c1 : k < lo
    · rw [if_pos (nI_lt c1 (by omega)), if_neg (by omega)]
    · rw [if_neg (nI_nlt (by omega) (by omega))]
      by_cases c2 : hi < k
      · rw [if_pos (nI_lt c2 (by omega)), if_neg (by omega)]
      · rw [if_neg (nI_nlt (by omega) (by omega)), if_pos (by omega)]
  · rw [if_pos (Int32.lt_of_lt_of_le (sx_all k hk (by omega)) (nI_pos' (by omega))), if_neg (by omega)]
end TAPE
