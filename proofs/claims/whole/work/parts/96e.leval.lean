/-! ===== a law: the class's object, and what it says ===== -/
/-- a law of these lines lies at la -/
def LwO (h : Hp) (la : Nat) (D : List Ln) : Prop :=
  (h.1 la = (1, 5) ∧ h.2.1 la 0 = .int (nI D.length) ∧ h.2.1 la 1 = .ref (la + 1) ∧ h.2.1 la 2 = .ref (la + 2) ∧ h.2.1 la 3 = .ref (la + 3) ∧ h.2.1 la 4 = .ref (la + 4)) ∧ (h.1 (la + 1) = (101, 12) ∧ h.1 (la + 2) = (101, 12) ∧ h.1 (la + 3) = (101, 12) ∧ h.1 (la + 4) = (101, (opsD D).length)) ∧
  (D.length ≤ 12 ∧ (opsD D).length ≤ 800) ∧ (∀ i l, D[i]? = some l → h.2.1 (la + 1) i = .int (nI l.1) ∧ h.2.1 (la + 2) i = .int (nI l.2.1) ∧ h.2.1 (la + 3) i = .int (nI (opsD (D.take (i + 1))).length)) ∧ ∀ j o, (opsD D)[j]? = some o → h.2.1 (la + 4) j = .int o
theorem take_s {α : Type} {D : List α} {i : Nat} {l : α} (h : D[i]? = some l) : D.take (i + 1) = D.take i ++ [l] := by rw [List.take_succ, h]; rfl
section LEV
variable {G : Gx} {h h' : Hp} {v la lb : Nat} {A : Vs} {D : List Ln} {p : Nat}
theorem LwO.keep (L : LwO h la D) (s : Sm la (la + 5) h h') : LwO h' la D := by
  obtain ⟨⟨a0, a1, a2, a3, a4, a5⟩, ⟨b1, b2, b3, b4⟩, c, d, e⟩ := L
  have s0 := s la (by omega) (by omega)
  have s1 := s (la + 1) (by omega) (by omega)
  have s2 := s (la + 2) (by omega) (by omega)
  have s3 := s (la + 3) (by omega) (by omega)
  have s4 := s (la + 4) (by omega) (by omega)
  exact ⟨⟨by rw [s0.1]; exact a0, by rw [s0.2]; exact a1, by rw [s0.2]; exact a2, by rw [s0.2]; exact a3, by rw [s0.2]; exact a4, by rw [s0.2]; exact a5⟩, ⟨by rw [s1.1]; exact b1, by rw [s2.1]; exact b2, by rw [s3.1]; exact b3, by rw [s4.1]; exact b4⟩, c, fun i l hi => by rw [s1.2, s2.2, s3.2]; exact d i l hi, fun j o hj => by rw [s4.2]; exact e j o hj⟩
theorem LwO.kd (L : LwO h la D) : (h.1 la).1 = 1 := by rw [L.1.1]
theorem v_measure (hl : G.1.stackTraces = false) (V : VlyAt h v A lb) (W : Wf A) (hp : p < nP A) (o : Int32) : EvI G m_Va_measure [.ref v, .int o, .int (nI p)] h (mea A p o) := by
  have B := W.1
  have p7 := B.P7 hp
  have m : ∀ k : Int32, o = k → ¬ k < -20 → ¬ -11 < k → mea A p o = fcF A p (k + 20).toNatClampNeg := fun k e h1 h2 => by
    rw [e]; unfold mea; rw [if_neg h1, if_neg h2]
  refine en_Va_measure h _ _ _ _ (e_Va_measure_0 hl h _ _ _ _ ⟨⟨fun c => ⟨?_, rfl⟩, fun c => ⟨_, V.r1, _, V.a1 p7, ?_, rfl⟩, fun c => ⟨_, V.r2, _, V.a2 p7, ?_, rfl⟩, fun c => ⟨V.kd, _, v_ownedBy hl V B _, _, j_bitCount hl _, ?_, rfl⟩, fun c => ⟨V.kd, _, v_clothOf hl V B _, _, j_bitCount hl _, ?_, rfl⟩, fun c => ⟨V.kd, _, v_holding hl V B _, fun d => ?_, fun d => ⟨?_, rfl⟩⟩, fun c => ⟨_, V.f12, by decide, ?_, rfl⟩, fun c => ⟨V.kd, _, v_holding hl V B _, fun d => ⟨?_, rfl⟩, fun d => ⟨?_, rfl⟩⟩, fun c => ⟨_, V.f4, ?_, rfl⟩, fun c => ⟨V.kd, _, v_successor hl V B W.2.1 hp, fun d => ⟨?_, rfl⟩, fun d => ⟨?_, rfl⟩⟩, trivial⟩, fun c => ⟨?_, rfl⟩⟩)
  · rw [m _ c (by decide) (by decide)]; rfl
  · rw [m _ c (by decide) (by decide)]; rfl
  · rw [m _ c (by decide) (by decide)]; rfl
  · rw [m _ c (by decide) (by decide)]; rfl
  · rw [m _ c (by decide) (by decide)]; rfl
  · rcases holdF_spec A (nI p) with ⟨z, -⟩ | ⟨k, hk, z, -, -⟩
    · exact absurd z d
    · have k10 := B.T10 hk
      refine ⟨_, V.r8, A 7 k, by rw [z]; exact V.a7 k10, ?_, rfl⟩
      rw [m _ c (by decide) (by decide)]
      show _ = Sum.inl (some (Value.int (if holdF A (nI p) = -1 then 0 else A 7 (holdF A (nI p)).toNatClampNeg)))
      rw [if_neg d, z, nI_clamp (by omega)]
  · rw [m _ c (by decide) (by decide)]
    show _ = Sum.inl (some (Value.int (if holdF A (nI p) = -1 then 0 else A 7 (holdF A (nI p)).toNatClampNeg)))
    rw [if_pos d]
  · rw [m _ c (by decide) (by decide)]; rfl
  · rw [m _ c (by decide) (by decide)]
    show _ = Sum.inl (some (Value.int (if holdF A (nI p) = -1 then 1 else 0)))
    rw [if_neg d]
  · rw [m _ c (by decide) (by decide)]
    show _ = Sum.inl (some (Value.int (if holdF A (nI p) = -1 then 1 else 0)))
    rw [if_pos d]
  · rw [m _ c (by decide) (by decide)]
    have e := flag_bit (A := A) (f := 4) B (by omega : p < 32)
    rw [if_pos hp] at e
    show Sum.inl (some (Value.int (bit1 (flagF A 4) p))) = Sum.inl (some (Value.int (if A 4 p = 1 then 1 else 0)))
    rw [e]
  · rw [m _ c (by decide) (by decide)]
    show _ = Sum.inl (some (Value.int (if succF A p = -1 then 1 else 0)))
    rw [if_neg d]
  · rw [m _ c (by decide) (by decide)]
    show _ = Sum.inl (some (Value.int (if succF A p = -1 then 1 else 0)))
    rw [if_pos d]
  · unfold mea
    rcases c with c | c
    · rw [if_pos c]
    · have c1 : ¬ o < -20 := fun z => Int32.lt_irrefl (Int32.lt_trans z (Int32.lt_of_lt_of_le (by decide) c))
      rw [if_neg c1, if_pos (Int32.lt_of_lt_of_le (by decide) c)]
theorem lw_holds (hl : G.1.stackTraces = false) (L : LwO h la D) (V : VlyAt h v A lb) (W : Wf A) (hp : p < nP A) {i : Nat} {l : Ln} (hi : D[i]? = some l) : EvI G m_La_holds [.ref la, .ref v, .int (nI p), .int (nI (opsD (D.take i)).length), .int (nI (opsD (D.take (i + 1))).length)] h (if holdC A p l.2.2.1 then 1 else 0) := by
  have n8 := L.2.2.1.2
  have eo : opsD D = opsD (D.take i) ++ (l.2.2.1 ++ opsD (D.drop (i + 1))) := by
    have := List.take_append_drop (i + 1) D
    rw [← opsD_1, ← opsD_app, ← opsD_app]
    congr 1
    rw [← List.append_assoc, ← take_s hi, this]
  have en : (opsD (D.take (i + 1))).length = (opsD (D.take i)).length + l.2.2.1.length := by rw [take_s hi, opsD_app, opsD_1, List.length_append]
  have le : (opsD (D.take (i + 1))).length ≤ (opsD D).length := by rw [en, eo, List.length_append, List.length_append]; omega
  refine en_La_holds h _ _ _ _ _ _ (e_La_holds_0 hl h _ _ _ _ _ _ ?_)
  suffices hh : ∀ (seg : List Int32) (j : Nat) (z : Cs), (∀ k o, seg[k]? = some o → (opsD D)[j + k]? = some o) → j + seg.length = (opsD (D.take (i + 1))).length → Ev G m_La_holds 12 [.ref la, .ref v, .int (nI p), un, .int (nI (opsD (D.take (i + 1))).length), .int z.1, .int z.2.1, .int z.2.2, .int (nI j), un, un] [] h 0 0 (fun r h' => r = .inl (some (.int (if (runC A p seg z).1 &&& 1 = 1 then 1 else 0))) ∧ h' = h) by
    refine hh l.2.2.1 _ (1, 0, 0) (fun k o hk => ?_) en.symm
    rw [eo, List.getElem?_append_right (by omega), Nat.add_sub_cancel_left, List.getElem?_append_left (List.getElem?_eq_some_iff.mp hk).1]
    exact hk
  intro seg
  induction seg with
  | nil =>
    intro j z _ hj
    have hj' : j = (opsD (D.take (i + 1))).length := hj
    have dn : ∀ {x : Int32}, ((¬ x &&& 1 = 1 → (fun (r : Res) (h' : Hp) => r = .inl (some (.int (if x &&& 1 = 1 then 1 else 0))) ∧ h' = h) (.inl (some (.int 0))) h) ∧ (x &&& 1 = 1 → (fun (r : Res) (h' : Hp) => r = .inl (some (.int (if x &&& 1 = 1 then 1 else 0))) ∧ h' = h) (.inl (some (.int 1))) h)) := fun {x} => ⟨fun c => ⟨by rw [if_neg c], rfl⟩, fun c => ⟨by rw [if_pos c], rfl⟩⟩
    refine e_La_holds_12 hl h _ _ _ _ _ _ _ _ _ ⟨fun _ => dn, fun c => absurd (by rw [hj']; exact Int32.le_refl _) c⟩
  | cons o seg ih =>
    intro j z hs hj
    have hl' : (o :: seg).length = seg.length + 1 := rfl
    have key := ih (j + 1) (stC A p z o) (fun k c hk => by rw [show j + 1 + k = j + (k + 1) by omega]; exact hs (k + 1) c hk) (by omega)
    have fin : ∀ a1 a2 a3, stC A p z o = (a1, a2, a3) → Ev G m_La_holds 12 [.ref la, .ref v, .int (nI p), un, .int (nI (opsD (D.take (i + 1))).length), .int a1, .int a2, .int a3, .int (nI j + 1), un, un] [] h 0 0 (fun r h' => r = .inl (some (.int (if (runC A p (o :: seg) z).1 &&& 1 = 1 then 1 else 0))) ∧ h' = h) := fun a1 a2 a3 e => by
      rw [nI_1]
      have k2 := key
      rw [e] at k2
      show Ev G m_La_holds 12 _ [] h 0 0 (fun r h' => r = .inl (some (.int (if (runC A p seg (stC A p z o)).1 &&& 1 = 1 then 1 else 0))) ∧ h' = h)
      rw [e]; exact k2
    have r4 : fR h 1 la 4 (la + 4) := ⟨L.kd, L.1.2.2.2.2.2⟩
    have ao := L.2.2.2.2 j o (hs 0 o rfl)
    have meas := v_measure hl V W hp o
    refine e_La_holds_12 hl h _ _ _ _ _ _ _ _ _ ⟨fun c => absurd c (nI_ge (by omega) (by omega)), fun _ => ⟨_, r4, _, L.2.1.2.2.2, fun c => absurd (show nI (opsD D).length ≤ nI j from c) (nI_ge (by omega) (by omega)), fun _ => ⟨_, r4, o, aI_of L.2.1.2.2.2 (by omega) (by omega) ao, ?_⟩⟩⟩
    refine ⟨fun c10 => ⟨fun c9 => ⟨fun n => absurd c9 n, fun _ => ⟨fun d => ⟨fun _ => fin _ _ _ ?_, fun e => absurd rfl e⟩, fun d => ⟨fun e => absurd e one0, fun _ => fin _ _ _ ?_⟩⟩⟩, fun c9 => ⟨fun c8 => ⟨fun c7 => ⟨fun c6 => ⟨fun c5 => ⟨fun g => ⟨fun s => ⟨V.kd, _, meas, fin _ _ _ ?_⟩, fun s => fin _ _ _ ?_⟩, fun g => ⟨fun t => ⟨fun s => ⟨V.kd, _, meas, fin _ _ _ ?_⟩, fun s => fin _ _ _ ?_⟩, fun t => ⟨V.kd, _, meas, fin _ _ _ ?_⟩⟩⟩, fun c5 => fin _ _ _ ?_⟩, fun c6 => ⟨fun s => fin _ _ _ ?_, fun s => fin _ _ _ ?_⟩⟩, fun c7 => fin _ _ _ ?_⟩, fun c8 => ⟨fun _ => ⟨fun d => ⟨fun _ => fin _ _ _ ?_, fun e => absurd rfl e⟩, fun d => ⟨fun e => absurd e one0, fun _ => fin _ _ _ ?_⟩⟩, fun e => absurd e c9⟩⟩⟩, fun c10 => fin _ _ _ ?_⟩
    · unfold stC; rw [if_neg c10, if_pos c9, if_neg (Int32.not_lt.mpr d)]
    · unfold stC; rw [if_neg c10, if_pos c9, if_pos (Int32.not_le.mp d)]
    · unfold stC; rw [if_neg c10, if_neg c9, if_neg c8, if_neg c7, if_neg c6, if_neg c5, if_pos g, if_pos s]
    · unfold stC; rw [if_neg c10, if_neg c9, if_neg c8, if_neg c7, if_neg c6, if_neg c5, if_pos g, if_neg s]
    · unfold stC; rw [if_neg c10, if_neg c9, if_neg c8, if_neg c7, if_neg c6, if_neg c5, if_neg g, if_pos t, if_pos s]
    · unfold stC; rw [if_neg c10, if_neg c9, if_neg c8, if_neg c7, if_neg c6, if_neg c5, if_neg g, if_pos t, if_neg s]
    · unfold stC; rw [if_neg c10, if_neg c9, if_neg c8, if_neg c7, if_neg c6, if_neg c5, if_neg g, if_neg t]
    · unfold stC; rw [if_neg c10, if_neg c9, if_neg c8, if_neg c7, if_neg c6, if_pos c5]
    · unfold stC; rw [if_neg c10, if_neg c9, if_neg c8, if_neg c7, if_pos c6, if_neg s]
    · unfold stC; rw [if_neg c10, if_neg c9, if_neg c8, if_neg c7, if_pos c6, if_pos s]
    · unfold stC; rw [if_neg c10, if_neg c9, if_neg c8, if_pos c7]
    · unfold stC; rw [if_neg c10, if_neg c9, if_pos c8, if_neg (Int32.not_lt.mpr d)]
    · unfold stC; rw [if_neg c10, if_neg c9, if_pos c8, if_pos (Int32.not_le.mp d)]
    · unfold stC; rw [if_pos c10]
def sumT (D : List Ln) (A : Vs) (p : Nat) (k : Int32) : Int32 := D.foldl (fun s l => if nI l.1 = k ∧ holdC A p l.2.2.1 then s + nI l.2.1 else s) 0
theorem sumT_s {i : Nat} {l : Ln} (hi : D[i]? = some l) (k : Int32) : sumT (D.take (i + 1)) A p k = if nI l.1 = k ∧ holdC A p l.2.2.1 then sumT (D.take i) A p k + nI l.2.1 else sumT (D.take i) A p k := by
  unfold sumT
  rw [take_s hi, List.foldl_append]; rfl
theorem lw_total (hl : G.1.stackTraces = false) (L : LwO h la D) (V : VlyAt h v A lb) (W : Wf A) (hp : p < nP A) (k : Int32) : EvI G m_La_total [.ref la, .ref v, .int (nI p), .int k] h (lawT D A p k) := by
  have d12 := L.2.2.1.1
  refine en_La_total h _ _ _ _ _ (e_La_total_0 hl h _ _ _ _ _ ?_)
  have f0 : fI h 1 la 0 (nI D.length) := ⟨L.kd, L.1.2.1⟩
  have r1 : fR h 1 la 1 (la + 1) := ⟨L.kd, L.1.2.2.1⟩
  have r2 : fR h 1 la 2 (la + 2) := ⟨L.kd, L.1.2.2.2.1⟩
  have r3 : fR h 1 la 3 (la + 3) := ⟨L.kd, L.1.2.2.2.2.1⟩
  refine for_up (Q := fun i => Ev G m_La_total 9 [.ref la, .ref v, .int (nI p), .int k, .int (sumT (D.take i) A p k), .int (nI (opsD (D.take i)).length), .int (nI i)] [] h 0 0 (fun o h' => o = .inl (some (.int (lawT D A p k))) ∧ h' = h)) (n := D.length) ?_ (fun i hi ih => ?_) 0 (Nat.zero_le _)
  · refine e_La_total_9 hl h _ _ _ _ _ _ _ _ ⟨_, f0, fun _ => ⟨?_, rfl⟩, fun c => absurd (Int32.le_refl _) c⟩
    rw [List.take_length]; rfl
  · obtain ⟨l, el⟩ : ∃ l, D[i]? = some l := ⟨_, List.getElem?_eq_getElem hi⟩
    obtain ⟨a1, a2, a3⟩ := L.2.2.2.1 i l el
    have i1 := aI_of L.2.1.1 (by omega : i < 12) (by decide) a1
    have i2 := aI_of L.2.1.2.1 (by omega : i < 12) (by decide) a2
    have i3 := aI_of L.2.1.2.2.1 (by omega : i < 12) (by decide) a3
    rw [sumT_s el] at ih
    refine e_La_total_9 hl h _ _ _ _ _ _ _ _ ⟨_, f0, fun c => absurd c (nI_ge hi (by omega)), fun _ => ⟨_, r1, _, i1, fun c => ⟨_, r3, _, i3, ?_⟩, fun c => ⟨_, r3, _, i3, L.kd, _, lw_holds hl L V W hp el, fun d => ⟨_, r3, _, i3, ?_⟩, fun d => ⟨_, r2, _, i2, _, r3, _, i3, ?_⟩⟩⟩⟩
    · rw [nI_1]; rw [if_neg (fun z => c z.1)] at ih; exact ih
    · rw [nI_1]; rw [if_neg (fun z => ite0 d z.2)] at ih; exact ih
    · rw [nI_1]; rw [if_pos ⟨c, ite1 d⟩] at ih; exact ih
theorem lw_ok (hl : G.1.stackTraces = false) (L : LwO h la D) : LawOk G h la (lawT D) := fun h' s => ⟨(L.keep s).kd, fun v A lb V W p k hp _ => lw_total hl (L.keep s) V W hp (nI k)⟩
end LEV
/-! no law yet -/
def LwN (h : Hp) (la : Nat) : Prop := h.1 la = (1, 5) ∧ h.2.1 la 0 = .int (-1)
theorem lw_none {G : Gx} {h : Hp} {la : Nat} (hl : G.1.stackTraces = false) (L : LwN h la) : LawOk G h la (fun _ _ _ => 0) := fun h' s => by
  have s0 := s la (by omega) (by omega)
  have kd : (h'.1 la).1 = 1 := by rw [s0.1, L.1]
  refine ⟨kd, fun v A lb V W p k hp _ => en_La_total h' _ _ _ _ _ (e_La_total_0 hl h' _ _ _ _ _ (e_La_total_9 hl h' _ _ _ _ _ _ _ _ ⟨_, ⟨kd, by rw [s0.2]; exact L.2⟩, fun _ => ⟨rfl, rfl⟩, fun c => absurd (by decide) c⟩))⟩
