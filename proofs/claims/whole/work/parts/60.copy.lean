/-! ===== the class: a valley copied ===== -/
def Cp (D : Nat → Nat → Prop) (v u : Nat) (h h1 : Hp) : Prop := h1.1 = h.1 ∧ h.2.2 ≤ h1.2.2 ∧ (∀ a j, ¬ inV v a j → h1.2.1 a j = h.2.1 a j) ∧ ∀ i j, i ≤ 10 → (D i j → h1.2.1 (v + i) j = h.2.1 (u + i) j) ∧ (¬ D i j → h1.2.1 (v + i) j = h.2.1 (v + i) j)
def Ds (u v : Nat) : Prop := u + 11 ≤ v ∨ v + 11 ≤ u
section COPY
variable {G : Gx} {D : Nat → Nat → Prop} {v u : Nat} {h h1 : Hp} {A : Vs} {la lu : Nat}
theorem Cp.rf : Cp (fun _ _ => False) v u h h := ⟨rfl, Nat.le_refl _, fun _ _ _ => rfl, fun _ _ _ => ⟨fun z => z.elim, fun _ => rfl⟩⟩
theorem Cp.set (c : Cp D v u h h1) {i0 j0 : Nat} {y : Value} (hi : i0 ≤ 10) (e : y = h.2.1 (u + i0) j0) : Cp (fun i j => D i j ∨ (i = i0 ∧ j = j0)) v u h (hset h1 (v + i0) j0 y) := by
  refine ⟨c.1, c.2.1, fun a j n => ?_, fun i j hi' => ⟨fun d => ?_, fun d => ?_⟩⟩
  · rw [hs_ne (fun z => n ⟨by omega, by omega⟩)]; exact c.2.2.1 a j n
  · by_cases z : i = i0 ∧ j = j0
    · obtain ⟨rfl, rfl⟩ := z; rw [hs_eq]; exact e
    · rw [hs_ne (fun q => z ⟨by omega, q.2⟩)]
      exact (c.2.2.2 i j hi').1 (d.resolve_right z)
  · rw [hs_ne (fun q => d (Or.inr ⟨by omega, q.2⟩))]
    exact (c.2.2.2 i j hi').2 (fun z => d (Or.inl z))
theorem Cp.cpy (c : Cp D v u h h1) (ds : Ds u v) {i0 n : Nat} (hi : i0 ≤ 10) : Cp (fun i j => D i j ∨ (i = i0 ∧ j < n)) v u h (hcpy h1 (u + i0) (v + i0) n) := by
  have hu : ∀ j, h1.2.1 (u + i0) j = h.2.1 (u + i0) j := fun j => c.2.2.1 _ j (fun z => by unfold inV at z; unfold Ds at ds; omega)
  refine ⟨c.1, c.2.1, fun a j n' => ?_, fun i j hi' => ⟨fun d => ?_, fun d => ?_⟩⟩
  · show (if a = v + i0 ∧ j < n then h1.2.1 (u + i0) j else h1.2.1 a j) = _
    rw [if_neg (fun z => n' ⟨by omega, by omega⟩)]; exact c.2.2.1 a j n'
  · show (if v + i = v + i0 ∧ j < n then h1.2.1 (u + i0) j else h1.2.1 (v + i) j) = _
    by_cases z : i = i0 ∧ j < n
    · rw [if_pos ⟨by omega, z.2⟩, hu, z.1]
    · rw [if_neg (fun q => z ⟨by omega, q.2⟩)]
      exact (c.2.2.2 i j hi').1 (d.resolve_right z)
  · show (if v + i = v + i0 ∧ j < n then h1.2.1 (u + i0) j else h1.2.1 (v + i) j) = _
    rw [if_neg (fun q => d (Or.inr ⟨by omega, q.2⟩))]
    exact (c.2.2.2 i j hi').2 (fun z => d (Or.inl z))
theorem Cp.uV (c : Cp D v u h h1) (ds : Ds u v) (U : VlyAt h u A lu) : VlyAt h1 u A lu :=
  U.keep (fun a h2 h3 => ⟨by rw [c.1], funext fun j => c.2.2.1 a j (fun z => by unfold inV at z; unfold Ds at ds; omega)⟩)
theorem Cp.vR (c : Cp D v u h h1) {k b : Nat} (hd : ¬ D 0 k) (r : fR h 8 v k b) : fR h1 8 v k b := ⟨by rw [c.1]; exact r.1, by have := (c.2.2.2 0 k (by omega)).2 hd; rw [Nat.add_zero] at this; rw [this]; exact r.2⟩
theorem Cp.w (c : Cp D v u h h1) (hv : G.n0 ≤ v) (S : VSh h v la) : fW G h1 8 v := ⟨hv, by rw [c.1, S.1.1]⟩
theorem Cp.len {i n : Nat} (c : Cp D v u h h1) (e : h.1 (v + i) = (101, n)) : aN h1 101 (v + i) n := by show h1.1 (v + i) = (101, n); rw [c.1]; exact e
theorem l_copy (hl : G.1.stackTraces = false) {gv gu : Nat} (hg : G.n0 ≤ gv) (ds : gu + 2 ≤ gv ∨ gv + 2 ≤ gu) (L : LogAt h gu A) (S : h.1 gv = (3, 3) ∧ h.1 (gv + 1) = (101, 300) ∧ h.2.1 gv 0 = .ref (gv + 1)) : EvM G m_Lo_copyFrom [.ref gv, .ref gu] h (fun o h' => o = .inl none ∧ LogAt h' gv A ∧ Fs (fun a _ => a = gv ∨ a = gv + 1) h h') := by
  obtain ⟨L0, L1, L2, L3, nx, L4, L5, L6⟩ := L
  have kv : (h.1 gv).1 = 3 := by rw [S.1]
  have ku : (h.1 gu).1 = 3 := by rw [L0.1]
  have e300 : (Nat.toInt32 300).toNatClampNeg = 300 := by decide
  have ne1 : gu ≠ gv + 1 := by omega
  have ne2 : gv ≠ gv + 1 := by omega
  refine en_Lo_copyFrom h _ gv gu (e_Lo_copyFrom_0 hl h _ gv gu ⟨_, ⟨ku, L0.2.2⟩, _, ⟨kv, S.2.2⟩, _, ⟨kv, S.2.2⟩, 300, S.2.1, ⟨rfl, rfl⟩, ⟨300, 300, ⟨L0.2.1, S.2.1⟩, by decide, by rw [e300]; exact Nat.le_refl _, by rw [e300]; exact Nat.le_refl _⟩, by omega, fun j hj => L3 j (by rw [e300] at hj; exact hj), ?_⟩)
  rw [e300]
  refine e_Lo_copyFrom_18 hl _ _ gv gu ⟨nI nx, ⟨ku, by rw [hcpy_ne ne1]; exact L5⟩, ⟨hg, kv⟩, ?_⟩
  refine e_Lo_copyFrom_26 hl _ _ gv gu ⟨A 0 7, ⟨ku, by rw [hset_ne (by omega), hcpy_ne ne1]; exact L1⟩, ⟨hg, kv⟩, rfl, ?_, ?_⟩
  · have cc : ∀ j, j < 300 → (hset (hset (hcpy h (gu + 1) (gv + 1) 300) gv 1 (.int (nI nx))) gv 2 (.int (A 0 7))).2.1 (gv + 1) j = h.2.1 (gu + 1) j := fun j hj => by
      rw [hset_ne (by omega), hset_ne (by omega)]
      show (if gv + 1 = gv + 1 ∧ j < 300 then h.2.1 (gu + 1) j else h.2.1 (gv + 1) j) = _
      rw [if_pos ⟨rfl, hj⟩]
    refine ⟨⟨S.1, S.2.1, ?_⟩, hs_eq, L2, fun j hj => by rw [cc j hj]; exact L3 j hj, nx, L4, ?_, fun ago w a1 a2 a3 => ?_⟩
    · rw [hs_ne (by omega), hs_ne (by omega), hcpy_ne ne2]; exact S.2.2
    · rw [hs_ne (by omega), hs_eq]
    · have hr : ringAt nx ago < 60 := Nat.mod_lt _ (by decide)
      rw [cc _ (by omega)]; exact L6 ago w a1 a2 a3
  · have F0 : Fs (fun a _ => a = gv ∨ a = gv + 1) h (hcpy h (gu + 1) (gv + 1) 300) := ⟨rfl, Nat.le_refl _, fun a j n => by rw [hcpy_ne (fun z => n (Or.inr z))]⟩
    exact (F0.set (Or.inl rfl)).set (Or.inl rfl)
def Dcp (i j : Nat) : Prop := (i = 0 ∧ (j = 0 ∨ j = 4 ∨ j = 5 ∨ j = 6 ∨ (12 ≤ j ∧ j ≤ 17))) ∨ (1 ≤ i ∧ i ≤ 3 ∧ j < 7) ∨ (4 ≤ i ∧ i ≤ 8 ∧ j < 10)
theorem Cp.iff {D' : Nat → Nat → Prop} (c : Cp D v u h h1) (e : ∀ i j, D i j ↔ D' i j) : Cp D' v u h h1 := ⟨c.1, c.2.1, c.2.2.1, fun i j hi => ⟨fun d => (c.2.2.2 i j hi).1 ((e i j).mpr d), fun d => (c.2.2.2 i j hi).2 (fun z => d ((e i j).mp z))⟩⟩
theorem dcp_of {k j : Nat} (hd : vdom k j) : Dcp (vc k) (vj k j) := by
  rcases hd with ⟨rfl, hj⟩ | ⟨a, b, hj⟩ | ⟨a, b, hj⟩
  · have : j = 0 ∨ j = 1 ∨ j = 2 ∨ j = 3 ∨ j = 4 ∨ j = 5 ∨ j = 6 := by omega
    rcases this with rfl | rfl | rfl | rfl | rfl | rfl | rfl <;> (unfold Dcp; simp [vc, vj])
  · rw [show vc k = k by unfold vc; rw [if_neg (by omega), if_pos b], show vj k j = j by unfold vj; rw [if_neg (by omega)]]
    unfold Dcp; omega
  · rw [show vc k = k - 2 by unfold vc; rw [if_neg (by omega), if_neg (by omega)], show vj k j = j by unfold vj; rw [if_neg (by omega)]]
    unfold Dcp; omega
theorem v_copy_end (hl : G.1.stackTraces = false) (hv : G.n0 ≤ v) (ds : Ds u v) (U : VlyAt h u A lu) (S : VSh h v la) (SL : h.2.1 (v + 9) 0 = .ref (v + 9 + 1)) {h9 : Hp} (c : Cp Dcp v u h h9) : Ev G m_Va_copyFrom 200 [.ref v, .ref u] [] h9 0 0 (vpost v lu h A) := by
  have U9 := c.uV ds U
  have kv : (h.1 v).1 = 8 := by rw [S.1.1]
  have r18 : fR h 8 v 18 (v + 9) := ⟨kv, S.1.2.2.2.2.2.2.2.2.2.2⟩
  have T9 : h.1 (v + 9) = (3, 3) := S.2.2.2.2.2.2.2.2.2.1
  have T10 : h.1 (v + 10) = (101, 300) := S.2.2.2.2.2.2.2.2.2.2
  have s9 : h9.1 (v + 9) = (3, 3) := by rw [c.1]; exact T9
  refine e_Va_copyFrom_200 hl h9 _ v u ⟨_, c.vR (by unfold Dcp; omega) r18, _, U9.r18, by rw [s9], _, l_copy hl (by omega) (by unfold Ds at ds; omega) U9.2.2.2 ⟨s9, by rw [c.1]; exact T10, ?_⟩, fun o h' z => Or.inl ?_⟩
  · have := (c.2.2.2 9 0 (by omega)).2 (by unfold Dcp; omega)
    rw [this]; exact SL
  · obtain ⟨z1, L, F⟩ := z
    have e : ∀ i j, i ≤ 8 → h'.2.1 (v + i) j = h9.2.1 (v + i) j := fun i j hi => F.2.2 _ j (by omega)
    have e0 : ∀ j, h'.2.1 v j = h9.2.1 v j := fun j => e 0 j (by omega)
    have d0' : ∀ j, (Dcp 0 j → h9.2.1 v j = h.2.1 u j) ∧ (¬ Dcp 0 j → h9.2.1 v j = h.2.1 v j) := fun j => c.2.2.2 0 j (by omega)
    refine ⟨z1, rfl, ⟨S.keep (fun a h1 h2 => by rw [F.1, c.1]) (fun j hj => ?_) ?_, fun k j hd => ?_, ⟨?_, ?_⟩, L⟩, ?_⟩
    · rw [e0, (d0' j).2 (by unfold Dcp; omega)]
    · rw [e0, (d0' 17).1 (by unfold Dcp; omega)]; exact U.r17.2
    · rw [e (vc k) _ (by have := (vplace hd).1; omega), (c.2.2.2 (vc k) (vj k j) (by have := (vplace hd).1; omega)).1 (dcp_of hd)]
      exact U.2.1 k j hd
    · rw [e0, (d0' 4).1 (by unfold Dcp; omega)]; exact U.f4.2
    · rw [e0, (d0' 5).1 (by unfold Dcp; omega)]; exact U.f5.2
    · exact ⟨by rw [F.1, c.1], Nat.le_trans c.2.1 F.2.1, fun a j n => by rw [F.2.2 a j (fun z => n ⟨by omega, by omega⟩), c.2.2.1 a j n]⟩
def D_0 (_ _ : Nat) : Prop := False
def D_1 (i j : Nat) : Prop := D_0 i j ∨ (i = 0 ∧ j = 0)
def D_2 (i j : Nat) : Prop := D_1 i j ∨ (i = 1 ∧ j < 7)
def D_3 (i j : Nat) : Prop := D_2 i j ∨ (i = 2 ∧ j < 7)
def D_4 (i j : Nat) : Prop := D_3 i j ∨ (i = 3 ∧ j < 7)
def D_5 (i j : Nat) : Prop := D_4 i j ∨ (i = 0 ∧ j = 4)
def D_6 (i j : Nat) : Prop := D_5 i j ∨ (i = 0 ∧ j = 5)
def D_7 (i j : Nat) : Prop := D_6 i j ∨ (i = 0 ∧ j = 6)
def D_8 (i j : Nat) : Prop := D_7 i j ∨ (i = 4 ∧ j < 10)
def D_9 (i j : Nat) : Prop := D_8 i j ∨ (i = 5 ∧ j < 10)
def D_10 (i j : Nat) : Prop := D_9 i j ∨ (i = 6 ∧ j < 10)
def D_11 (i j : Nat) : Prop := D_10 i j ∨ (i = 7 ∧ j < 10)
def D_12 (i j : Nat) : Prop := D_11 i j ∨ (i = 8 ∧ j < 10)
def D_13 (i j : Nat) : Prop := D_12 i j ∨ (i = 0 ∧ j = 12)
def D_14 (i j : Nat) : Prop := D_13 i j ∨ (i = 0 ∧ j = 13)
def D_15 (i j : Nat) : Prop := D_14 i j ∨ (i = 0 ∧ j = 14)
def D_16 (i j : Nat) : Prop := D_15 i j ∨ (i = 0 ∧ j = 15)
def D_17 (i j : Nat) : Prop := D_16 i j ∨ (i = 0 ∧ j = 16)
def D_18 (i j : Nat) : Prop := D_17 i j ∨ (i = 0 ∧ j = 17)
theorem d18_of {i j : Nat} (z : Dcp i j) : D_18 i j := by
  unfold Dcp at z
  rcases z with ⟨rfl, z⟩ | ⟨a, b, hj⟩ | ⟨a, b, hj⟩
  · have : j = 0 ∨ j = 4 ∨ j = 5 ∨ j = 6 ∨ j = 12 ∨ j = 13 ∨ j = 14 ∨ j = 15 ∨ j = 16 ∨ j = 17 := by omega
    rcases this with rfl | rfl | rfl | rfl | rfl | rfl | rfl | rfl | rfl | rfl <;> simp [D_18, D_17, D_16, D_15, D_14, D_13, D_12, D_11, D_10, D_9, D_8, D_7, D_6, D_5, D_4, D_3, D_2, D_1, D_0]
  · have : i = 1 ∨ i = 2 ∨ i = 3 := by omega
    rcases this with rfl | rfl | rfl <;> simp [D_18, D_17, D_16, D_15, D_14, D_13, D_12, D_11, D_10, D_9, D_8, D_7, D_6, D_5, D_4, D_3, D_2, D_1, D_0, hj]
  · have : i = 4 ∨ i = 5 ∨ i = 6 ∨ i = 7 ∨ i = 8 := by omega
    rcases this with rfl | rfl | rfl | rfl | rfl <;> simp [D_18, D_17, D_16, D_15, D_14, D_13, D_12, D_11, D_10, D_9, D_8, D_7, D_6, D_5, D_4, D_3, D_2, D_1, D_0, hj]
theorem d18_to {i j : Nat} (z : D_18 i j) : Dcp i j := by
  simp only [D_18, D_17, D_16, D_15, D_14, D_13, D_12, D_11, D_10, D_9, D_8, D_7, D_6, D_5, D_4, D_3, D_2, D_1, D_0, false_or] at z
  unfold Dcp
  rcases z with ((((((((((((((((z | z) | z) | z) | z) | z) | z) | z) | z) | z) | z) | z) | z) | z) | z) | z) | z) | z <;> omega
theorem v_copyFrom (hl : G.1.stackTraces = false) (hv : G.n0 ≤ v) (ds : Ds u v) (U : VlyAt h u A lu) (S : VSh h v la) (SL : h.2.1 (v + 9) 0 = .ref (v + 9 + 1)) : EvM G m_Va_copyFrom [.ref v, .ref u] h (vpost v lu h A) := by
  have kv : (h.1 v).1 = 8 := by rw [S.1.1]
  have r1 : fR h 8 v 1 (v + 1) := ⟨kv, S.1.2.1⟩
  have r2 : fR h 8 v 2 (v + 2) := ⟨kv, S.1.2.2.1⟩
  have r3 : fR h 8 v 3 (v + 3) := ⟨kv, S.1.2.2.2.1⟩
  have r7 : fR h 8 v 7 (v + 4) := ⟨kv, S.1.2.2.2.2.1⟩
  have r8 : fR h 8 v 8 (v + 5) := ⟨kv, S.1.2.2.2.2.2.1⟩
  have r9 : fR h 8 v 9 (v + 6) := ⟨kv, S.1.2.2.2.2.2.2.1⟩
  have r10 : fR h 8 v 10 (v + 7) := ⟨kv, S.1.2.2.2.2.2.2.2.1⟩
  have r11 : fR h 8 v 11 (v + 8) := ⟨kv, S.1.2.2.2.2.2.2.2.2.1⟩
  have r18 : fR h 8 v 18 (v + 9) := ⟨kv, S.1.2.2.2.2.2.2.2.2.2.2⟩
  have aU : ∀ {h2 : Hp} (k n : Nat), VlyAt h2 u A lu → (h2.1 (u + k)) = (101, n) → aN h2 101 (u + k) n := fun k n _ e => e
  have int7 : ∀ {h2 : Hp} (k : Nat), 1 ≤ k ∧ k ≤ 3 → VlyAt h2 u A lu → ∀ j, j < 7 → ∃ x, h2.2.1 (u + k) j = .int x := fun {h2} k hk U2 j hj => by
    have := U2.2.1 k j (Or.inr (Or.inl ⟨hk.1, hk.2, hj⟩))
    rw [show vc k = k by unfold vc; rw [if_neg (by omega), if_pos hk.2], show vj k j = j by unfold vj; rw [if_neg (by omega)]] at this
    exact ⟨_, this⟩
  have int10 : ∀ {h2 : Hp} (k : Nat), 4 ≤ k ∧ k ≤ 8 → VlyAt h2 u A lu → ∀ j, j < 10 → ∃ x, h2.2.1 (u + k) j = .int x := fun {h2} k hk U2 j hj => by
    have := U2.2.1 (k + 2) j (Or.inr (Or.inr ⟨by omega, by omega, hj⟩))
    rw [show vc (k + 2) = k by unfold vc; rw [if_neg (by omega), if_neg (by omega)]; omega, show vj (k + 2) j = j by unfold vj; rw [if_neg (by omega)]] at this
    exact ⟨_, this⟩
  have e7 : (7 : Int32).toNatClampNeg = 7 := by decide
  have e10 : (10 : Int32).toNatClampNeg = 10 := by decide
  have s200 : ∀ h1, Cp D_18 v u h h1 → Ev G m_Va_copyFrom 200 [.ref v, .ref u] [] h1 0 0 (vpost v lu h A) := fun h1 c => v_copy_end hl hv ds U S SL (c.iff (fun i j => ⟨d18_to, d18_of⟩))
  have s192 : ∀ h1, Cp D_17 v u h h1 → Ev G m_Va_copyFrom 192 [.ref v, .ref u] [] h1 0 0 (vpost v lu h A) := by
    intro h1 c
    have U1 := c.uV ds U
    refine e_Va_copyFrom_192 hl _ _ v u ⟨_, U1.r17, c.w hv S, ?_⟩
    exact s200 _ (c.set (i0 := 0) (j0 := 17) (by decide) U.r17.2.symm)
  have s184 : ∀ h1, Cp D_16 v u h h1 → Ev G m_Va_copyFrom 184 [.ref v, .ref u] [] h1 0 0 (vpost v lu h A) := by
    intro h1 c
    have U1 := c.uV ds U
    refine e_Va_copyFrom_184 hl _ _ v u ⟨_, U1.f16, c.w hv S, ?_⟩
    exact s192 _ (c.set (i0 := 0) (j0 := 16) (by decide) U.f16.2.symm)
  have s176 : ∀ h1, Cp D_15 v u h h1 → Ev G m_Va_copyFrom 176 [.ref v, .ref u] [] h1 0 0 (vpost v lu h A) := by
    intro h1 c
    have U1 := c.uV ds U
    refine e_Va_copyFrom_176 hl _ _ v u ⟨_, U1.f15, c.w hv S, ?_⟩
    exact s184 _ (c.set (i0 := 0) (j0 := 15) (by decide) U.f15.2.symm)
  have s168 : ∀ h1, Cp D_14 v u h h1 → Ev G m_Va_copyFrom 168 [.ref v, .ref u] [] h1 0 0 (vpost v lu h A) := by
    intro h1 c
    have U1 := c.uV ds U
    refine e_Va_copyFrom_168 hl _ _ v u ⟨_, U1.f14, c.w hv S, ?_⟩
    exact s176 _ (c.set (i0 := 0) (j0 := 14) (by decide) U.f14.2.symm)
  have s160 : ∀ h1, Cp D_13 v u h h1 → Ev G m_Va_copyFrom 160 [.ref v, .ref u] [] h1 0 0 (vpost v lu h A) := by
    intro h1 c
    have U1 := c.uV ds U
    refine e_Va_copyFrom_160 hl _ _ v u ⟨_, U1.f13, c.w hv S, ?_⟩
    exact s168 _ (c.set (i0 := 0) (j0 := 13) (by decide) U.f13.2.symm)
  have s152 : ∀ h1, Cp D_12 v u h h1 → Ev G m_Va_copyFrom 152 [.ref v, .ref u] [] h1 0 0 (vpost v lu h A) := by
    intro h1 c
    have U1 := c.uV ds U
    refine e_Va_copyFrom_152 hl _ _ v u ⟨_, U1.f12, c.w hv S, ?_⟩
    exact s160 _ (c.set (i0 := 0) (j0 := 12) (by decide) U.f12.2.symm)
  have s137 : ∀ h1, Cp D_11 v u h h1 → Ev G m_Va_copyFrom 137 [.ref v, .ref u] [] h1 0 0 (vpost v lu h A) := by
    intro h1 c
    have U1 := c.uV ds U
    refine e_Va_copyFrom_137 hl _ _ v u ⟨_, U1.r11, _, c.vR (by simp [D_11, D_10, D_9, D_8, D_7, D_6, D_5, D_4, D_3, D_2, D_1, D_0]) r11, ⟨rfl, rfl⟩, ⟨10, 10, ⟨U1.1.2.2.2.2.2.2.2.2.1, c.len S.2.2.2.2.2.2.2.2.1⟩, by decide, by decide, by decide⟩, by omega, fun j hj => int10 8 (by decide) U1 j hj, ?_⟩
    rw [e10]
    exact s152 _ (c.cpy ds (i0 := 8) (n := 10) (by decide))
  have s122 : ∀ h1, Cp D_10 v u h h1 → Ev G m_Va_copyFrom 122 [.ref v, .ref u] [] h1 0 0 (vpost v lu h A) := by
    intro h1 c
    have U1 := c.uV ds U
    refine e_Va_copyFrom_122 hl _ _ v u ⟨_, U1.r10, _, c.vR (by simp [D_10, D_9, D_8, D_7, D_6, D_5, D_4, D_3, D_2, D_1, D_0]) r10, ⟨rfl, rfl⟩, ⟨10, 10, ⟨U1.1.2.2.2.2.2.2.2.1, c.len S.2.2.2.2.2.2.2.1⟩, by decide, by decide, by decide⟩, by omega, fun j hj => int10 7 (by decide) U1 j hj, ?_⟩
    rw [e10]
    exact s137 _ (c.cpy ds (i0 := 7) (n := 10) (by decide))
  have s107 : ∀ h1, Cp D_9 v u h h1 → Ev G m_Va_copyFrom 107 [.ref v, .ref u] [] h1 0 0 (vpost v lu h A) := by
    intro h1 c
    have U1 := c.uV ds U
    refine e_Va_copyFrom_107 hl _ _ v u ⟨_, U1.r9, _, c.vR (by simp [D_9, D_8, D_7, D_6, D_5, D_4, D_3, D_2, D_1, D_0]) r9, ⟨rfl, rfl⟩, ⟨10, 10, ⟨U1.1.2.2.2.2.2.2.1, c.len S.2.2.2.2.2.2.1⟩, by decide, by decide, by decide⟩, by omega, fun j hj => int10 6 (by decide) U1 j hj, ?_⟩
    rw [e10]
    exact s122 _ (c.cpy ds (i0 := 6) (n := 10) (by decide))
  have s92 : ∀ h1, Cp D_8 v u h h1 → Ev G m_Va_copyFrom 92 [.ref v, .ref u] [] h1 0 0 (vpost v lu h A) := by
    intro h1 c
    have U1 := c.uV ds U
    refine e_Va_copyFrom_92 hl _ _ v u ⟨_, U1.r8, _, c.vR (by simp [D_8, D_7, D_6, D_5, D_4, D_3, D_2, D_1, D_0]) r8, ⟨rfl, rfl⟩, ⟨10, 10, ⟨U1.1.2.2.2.2.2.1, c.len S.2.2.2.2.2.1⟩, by decide, by decide, by decide⟩, by omega, fun j hj => int10 5 (by decide) U1 j hj, ?_⟩
    rw [e10]
    exact s107 _ (c.cpy ds (i0 := 5) (n := 10) (by decide))
  have s77 : ∀ h1, Cp D_7 v u h h1 → Ev G m_Va_copyFrom 77 [.ref v, .ref u] [] h1 0 0 (vpost v lu h A) := by
    intro h1 c
    have U1 := c.uV ds U
    refine e_Va_copyFrom_77 hl _ _ v u ⟨_, U1.r7, _, c.vR (by simp [D_7, D_6, D_5, D_4, D_3, D_2, D_1, D_0]) r7, ⟨rfl, rfl⟩, ⟨10, 10, ⟨U1.1.2.2.2.2.1, c.len S.2.2.2.2.1⟩, by decide, by decide, by decide⟩, by omega, fun j hj => int10 4 (by decide) U1 j hj, ?_⟩
    rw [e10]
    exact s92 _ (c.cpy ds (i0 := 4) (n := 10) (by decide))
  have s69 : ∀ h1, Cp D_6 v u h h1 → Ev G m_Va_copyFrom 69 [.ref v, .ref u] [] h1 0 0 (vpost v lu h A) := by
    intro h1 c
    have U1 := c.uV ds U
    refine e_Va_copyFrom_69 hl _ _ v u ⟨_, U1.f6, c.w hv S, ?_⟩
    exact s77 _ (c.set (i0 := 0) (j0 := 6) (by decide) U.f6.2.symm)
  have s61 : ∀ h1, Cp D_5 v u h h1 → Ev G m_Va_copyFrom 61 [.ref v, .ref u] [] h1 0 0 (vpost v lu h A) := by
    intro h1 c
    have U1 := c.uV ds U
    refine e_Va_copyFrom_61 hl _ _ v u ⟨_, U1.f5, c.w hv S, ?_⟩
    exact s69 _ (c.set (i0 := 0) (j0 := 5) (by decide) U.f5.2.symm)
  have s53 : ∀ h1, Cp D_4 v u h h1 → Ev G m_Va_copyFrom 53 [.ref v, .ref u] [] h1 0 0 (vpost v lu h A) := by
    intro h1 c
    have U1 := c.uV ds U
    refine e_Va_copyFrom_53 hl _ _ v u ⟨_, U1.f4, c.w hv S, ?_⟩
    exact s61 _ (c.set (i0 := 0) (j0 := 4) (by decide) U.f4.2.symm)
  have s38 : ∀ h1, Cp D_3 v u h h1 → Ev G m_Va_copyFrom 38 [.ref v, .ref u] [] h1 0 0 (vpost v lu h A) := by
    intro h1 c
    have U1 := c.uV ds U
    refine e_Va_copyFrom_38 hl _ _ v u ⟨_, U1.r3, _, c.vR (by simp [D_3, D_2, D_1, D_0]) r3, ⟨rfl, rfl⟩, ⟨7, 7, ⟨U1.1.2.2.2.1, c.len S.2.2.2.1⟩, by decide, by decide, by decide⟩, by omega, fun j hj => int7 3 (by decide) U1 j hj, ?_⟩
    rw [e7]
    exact s53 _ (c.cpy ds (i0 := 3) (n := 7) (by decide))
  have s23 : ∀ h1, Cp D_2 v u h h1 → Ev G m_Va_copyFrom 23 [.ref v, .ref u] [] h1 0 0 (vpost v lu h A) := by
    intro h1 c
    have U1 := c.uV ds U
    refine e_Va_copyFrom_23 hl _ _ v u ⟨_, U1.r2, _, c.vR (by simp [D_2, D_1, D_0]) r2, ⟨rfl, rfl⟩, ⟨7, 7, ⟨U1.1.2.2.1, c.len S.2.2.1⟩, by decide, by decide, by decide⟩, by omega, fun j hj => int7 2 (by decide) U1 j hj, ?_⟩
    rw [e7]
    exact s38 _ (c.cpy ds (i0 := 2) (n := 7) (by decide))
  have s8 : ∀ h1, Cp D_1 v u h h1 → Ev G m_Va_copyFrom 8 [.ref v, .ref u] [] h1 0 0 (vpost v lu h A) := by
    intro h1 c
    have U1 := c.uV ds U
    refine e_Va_copyFrom_8 hl _ _ v u ⟨_, U1.r1, _, c.vR (by simp [D_1, D_0]) r1, ⟨rfl, rfl⟩, ⟨7, 7, ⟨U1.1.2.1, c.len S.2.1⟩, by decide, by decide, by decide⟩, by omega, fun j hj => int7 1 (by decide) U1 j hj, ?_⟩
    rw [e7]
    exact s23 _ (c.cpy ds (i0 := 1) (n := 7) (by decide))
  have s0 : ∀ h1, Cp D_0 v u h h1 → Ev G m_Va_copyFrom 0 [.ref v, .ref u] [] h1 0 0 (vpost v lu h A) := by
    intro h1 c
    have U1 := c.uV ds U
    refine e_Va_copyFrom_0 hl _ _ v u ⟨_, U1.f0, c.w hv S, ?_⟩
    exact s8 _ (c.set (i0 := 0) (j0 := 0) (by decide) U.f0.2.symm)
  exact en_Va_copyFrom h _ v u (s0 h Cp.rf)
end COPY
def VS (h : Hp) (v : Nat) : Prop := (∃ la, VSh h v la) ∧ h.2.1 (v + 9) 0 = .ref (v + 9 + 1)
theorem VlyAt.vs {h : Hp} {v : Nat} {A : Vs} {la : Nat} (V : VlyAt h v A la) : VS h v := ⟨⟨la, V.1⟩, V.2.2.2.1.2.2⟩
theorem v_copy {G : Gx} {h : Hp} {v u : Nat} {A : Vs} {lu : Nat} (hl : G.1.stackTraces = false) (hv : G.n0 ≤ v) (ds : Ds u v) (U : VlyAt h u A lu) (S : VS h v) : EvM G m_Va_copyFrom [.ref v, .ref u] h (vpost v lu h A) := by
  obtain ⟨⟨la, S1⟩, S2⟩ := S
  exact v_copyFrom hl hv ds U S1 S2
