/-! ===== constructors (printed by wip/whole/ctor.py) ===== -/
/-- new cells, from o on -/
def NewO (h h' : Hp) (o k : Nat) : Prop := (∀ a, a < o → h'.1 a = h.1 a ∧ h'.2.1 a = h.2.1 a) ∧ h'.2.2 = o + k
theorem lt_k {o k : Nat} (h : 0 < k) : o < o + k := Nat.lt_add_of_pos_right h
theorem ne_k0 {o k : Nat} (h : k ≠ 0) : o + k ≠ o := by omega
theorem ne_kk {o k l : Nat} (h : k ≠ l) : o + k ≠ o + l := by omega
section CTR
variable {G : Gx} {g : Hp} {o : Nat}
set_option maxHeartbeats 8000000 in
theorem i_Ta (hl : G.1.stackTraces = false) (ho : G.n0 ≤ o) (hn : g.2.2 = o + 1) (k0 : g.1 o = (6, 3)) : EvM G m_Ta_init [.ref o] g (fun r h' => r = .inl none ∧ NewO g h' o 2 ∧ (h'.1 o = (6, 3) ∧ h'.1 (o + 1) = (101, 400) ∧ h'.2.1 o 0 = .ref (o + 1) ∧ h'.2.1 o 1 = .int 0 ∧ h'.2.1 o 2 = .int 0 ∧ h'.2.1 (o + 1) = fun _ => .int 0)) := by
  have kd : (g.1 o).1 = 6 := by rw [k0]
  refine en_Ta_init g _ _ (e_Ta_init_0 hl g _ _ ?_)
  refine e_Ta_init_4 hl _ _ _ 0 0 ⟨by decide, by decide, ⟨ho, by rw [(hn_o (by rw [hn]; exact Nat.ne_of_lt (@lt_k o 1 (by decide)))).1]; exact kd⟩, ?_⟩
  rw [show Int32.toNatClampNeg (400 : Int32) = 400 from by decide, hn]
  obtain ⟨n1, a1, c1, s1, r1, f1, w1⟩ := mk_row (g := g) (o := o) (i := 0) (q := (101, 400)) (c := (fun _ => defaultValue (aty 0))) hn (Nat.ne_of_lt (@lt_k o 1 (by decide)))
  generalize hset (hnew g (101, 400) (fun _ => defaultValue (aty 0))) o 0 (.ref (o + 1)) = g1 at *
  have kd1 : (g1.1 o).1 = 6 := by rw [c1]; exact kd
  have od1 : ∀ a, a < o → g1.1 a = g.1 a ∧ g1.2.1 a = g.2.1 a := fun a ha => by
    exact a1 a (Nat.ne_of_lt ha) (Nat.ne_of_lt (Nat.lt_trans ha (@lt_k o 1 (by decide))))
  refine e_Ta_init_13 hl _ _ _ (0 + 1) (0 + 400) ⟨⟨ho, kd1⟩, ?_⟩
  have n2 : (hset g1 o 1 (.int (0))).2.2 = o + 1 + 1 := n1
  have a2 : ∀ a, a ≠ o → (hset g1 o 1 (.int (0))).1 a = g1.1 a ∧ (hset g1 o 1 (.int (0))).2.1 a = g1.2.1 a := fun a na => ⟨rfl, funext fun j => hs_ne (fun z => na z.1)⟩
  have c2 : (hset g1 o 1 (.int (0))).1 o = g1.1 o := rfl
  have f2 : ∀ j, j ≠ 1 → (hset g1 o 1 (.int (0))).2.1 o j = g1.2.1 o j := fun j hj => hs_ne (fun z => hj z.2)
  have w2 : (hset g1 o 1 (.int (0))).2.1 o 1 = .int (0) := hs_eq
  generalize hset g1 o 1 (.int (0)) = g2 at *
  have kd2 : (g2.1 o).1 = 6 := by rw [c2]; exact kd1
  have od2 : ∀ a, a < o → g2.1 a = g.1 a ∧ g2.2.1 a = g.2.1 a := fun a ha => by
    have y := a2 a (Nat.ne_of_lt ha)
    have z := od1 a ha
    exact ⟨by rw [y.1, z.1], by rw [y.2, z.2]⟩
  refine e_Ta_init_18 hl _ _ _ (0 + 1) (0 + 400) ⟨⟨ho, kd2⟩, ?_⟩
  have n3 : (hset g2 o 2 (.int (0))).2.2 = o + 1 + 1 := n2
  have a3 : ∀ a, a ≠ o → (hset g2 o 2 (.int (0))).1 a = g2.1 a ∧ (hset g2 o 2 (.int (0))).2.1 a = g2.2.1 a := fun a na => ⟨rfl, funext fun j => hs_ne (fun z => na z.1)⟩
  have c3 : (hset g2 o 2 (.int (0))).1 o = g2.1 o := rfl
  have f3 : ∀ j, j ≠ 2 → (hset g2 o 2 (.int (0))).2.1 o j = g2.2.1 o j := fun j hj => hs_ne (fun z => hj z.2)
  have w3 : (hset g2 o 2 (.int (0))).2.1 o 2 = .int (0) := hs_eq
  generalize hset g2 o 2 (.int (0)) = g3 at *
  have kd3 : (g3.1 o).1 = 6 := by rw [c3]; exact kd2
  have od3 : ∀ a, a < o → g3.1 a = g.1 a ∧ g3.2.1 a = g.2.1 a := fun a ha => by
    have y := a3 a (Nat.ne_of_lt ha)
    have z := od2 a ha
    exact ⟨by rw [y.1, z.1], by rw [y.2, z.2]⟩
  exact ⟨rfl, ⟨od3, n3⟩, (by rw [c3, c2, c1]; exact k0), (by rw [(a3 (o + 1) (@ne_k0 o 1 (by decide))).1, (a2 (o + 1) (@ne_k0 o 1 (by decide))).1]; exact s1), (by rw [f3 0 (by decide), f2 0 (by decide)]; exact w1), (by rw [f3 1 (by decide)]; exact w2), (by exact w3), (by rw [(a3 (o + 1) (@ne_k0 o 1 (by decide))).2, (a2 (o + 1) (@ne_k0 o 1 (by decide))).2]; exact r1)⟩
set_option maxHeartbeats 8000000 in
theorem i_Lo (hl : G.1.stackTraces = false) (ho : G.n0 ≤ o) (hn : g.2.2 = o + 1) (k0 : g.1 o = (3, 3)) : EvM G m_Lo_init [.ref o] g (fun r h' => r = .inl none ∧ NewO g h' o 2 ∧ (h'.1 o = (3, 3) ∧ h'.1 (o + 1) = (101, 300) ∧ h'.2.1 o 0 = .ref (o + 1) ∧ h'.2.1 o 1 = .int 0 ∧ h'.2.1 o 2 = .int 0 ∧ h'.2.1 (o + 1) = fun _ => .int 0)) := by
  have kd : (g.1 o).1 = 3 := by rw [k0]
  refine en_Lo_init g _ _ (e_Lo_init_0 hl g _ _ ?_)
  refine e_Lo_init_4 hl _ _ _ 0 0 ⟨by decide, by decide, ⟨ho, by rw [(hn_o (by rw [hn]; exact Nat.ne_of_lt (@lt_k o 1 (by decide)))).1]; exact kd⟩, ?_⟩
  rw [show Int32.toNatClampNeg (300 : Int32) = 300 from by decide, hn]
  obtain ⟨n1, a1, c1, s1, r1, f1, w1⟩ := mk_row (g := g) (o := o) (i := 0) (q := (101, 300)) (c := (fun _ => defaultValue (aty 0))) hn (Nat.ne_of_lt (@lt_k o 1 (by decide)))
  generalize hset (hnew g (101, 300) (fun _ => defaultValue (aty 0))) o 0 (.ref (o + 1)) = g1 at *
  have kd1 : (g1.1 o).1 = 3 := by rw [c1]; exact kd
  have od1 : ∀ a, a < o → g1.1 a = g.1 a ∧ g1.2.1 a = g.2.1 a := fun a ha => by
    exact a1 a (Nat.ne_of_lt ha) (Nat.ne_of_lt (Nat.lt_trans ha (@lt_k o 1 (by decide))))
  refine e_Lo_init_13 hl _ _ _ (0 + 1) (0 + 300) ⟨⟨ho, kd1⟩, ?_⟩
  have n2 : (hset g1 o 1 (.int (0))).2.2 = o + 1 + 1 := n1
  have a2 : ∀ a, a ≠ o → (hset g1 o 1 (.int (0))).1 a = g1.1 a ∧ (hset g1 o 1 (.int (0))).2.1 a = g1.2.1 a := fun a na => ⟨rfl, funext fun j => hs_ne (fun z => na z.1)⟩
  have c2 : (hset g1 o 1 (.int (0))).1 o = g1.1 o := rfl
  have f2 : ∀ j, j ≠ 1 → (hset g1 o 1 (.int (0))).2.1 o j = g1.2.1 o j := fun j hj => hs_ne (fun z => hj z.2)
  have w2 : (hset g1 o 1 (.int (0))).2.1 o 1 = .int (0) := hs_eq
  generalize hset g1 o 1 (.int (0)) = g2 at *
  have kd2 : (g2.1 o).1 = 3 := by rw [c2]; exact kd1
  have od2 : ∀ a, a < o → g2.1 a = g.1 a ∧ g2.2.1 a = g.2.1 a := fun a ha => by
    have y := a2 a (Nat.ne_of_lt ha)
    have z := od1 a ha
    exact ⟨by rw [y.1, z.1], by rw [y.2, z.2]⟩
  refine e_Lo_init_18 hl _ _ _ (0 + 1) (0 + 300) ⟨⟨ho, kd2⟩, ?_⟩
  have n3 : (hset g2 o 2 (.int (0))).2.2 = o + 1 + 1 := n2
  have a3 : ∀ a, a ≠ o → (hset g2 o 2 (.int (0))).1 a = g2.1 a ∧ (hset g2 o 2 (.int (0))).2.1 a = g2.2.1 a := fun a na => ⟨rfl, funext fun j => hs_ne (fun z => na z.1)⟩
  have c3 : (hset g2 o 2 (.int (0))).1 o = g2.1 o := rfl
  have f3 : ∀ j, j ≠ 2 → (hset g2 o 2 (.int (0))).2.1 o j = g2.2.1 o j := fun j hj => hs_ne (fun z => hj z.2)
  have w3 : (hset g2 o 2 (.int (0))).2.1 o 2 = .int (0) := hs_eq
  generalize hset g2 o 2 (.int (0)) = g3 at *
  have kd3 : (g3.1 o).1 = 3 := by rw [c3]; exact kd2
  have od3 : ∀ a, a < o → g3.1 a = g.1 a ∧ g3.2.1 a = g.2.1 a := fun a ha => by
    have y := a3 a (Nat.ne_of_lt ha)
    have z := od2 a ha
    exact ⟨by rw [y.1, z.1], by rw [y.2, z.2]⟩
  exact ⟨rfl, ⟨od3, n3⟩, (by rw [c3, c2, c1]; exact k0), (by rw [(a3 (o + 1) (@ne_k0 o 1 (by decide))).1, (a2 (o + 1) (@ne_k0 o 1 (by decide))).1]; exact s1), (by rw [f3 0 (by decide), f2 0 (by decide)]; exact w1), (by rw [f3 1 (by decide)]; exact w2), (by exact w3), (by rw [(a3 (o + 1) (@ne_k0 o 1 (by decide))).2, (a2 (o + 1) (@ne_k0 o 1 (by decide))).2]; exact r1)⟩
set_option maxHeartbeats 8000000 in
theorem i_Td (hl : G.1.stackTraces = false) (ho : G.n0 ≤ o) (hn : g.2.2 = o + 1) (k0 : g.1 o = (7, 1)) : EvM G m_Td_init [.ref o] g (fun r h' => r = .inl none ∧ NewO g h' o 2 ∧ (h'.1 o = (7, 1) ∧ h'.2.1 o 0 = .ref (o + 1) ∧ h'.1 (o + 1) = (102, 100))) := by
  have kd : (g.1 o).1 = 7 := by rw [k0]
  refine en_Td_init g _ _ (e_Td_init_0 hl g _ _ ?_)
  refine e_Td_init_4 hl _ _ _ 0 0 ⟨by decide, by decide, ⟨ho, by rw [(hn_o (by rw [hn]; exact Nat.ne_of_lt (@lt_k o 1 (by decide)))).1]; exact kd⟩, ?_⟩
  rw [show Int32.toNatClampNeg (100 : Int32) = 100 from by decide, hn]
  obtain ⟨n1, a1, c1, s1, r1, f1, w1⟩ := mk_row (g := g) (o := o) (i := 0) (q := (102, 100)) (c := (fun _ => defaultValue (aty 1))) hn (Nat.ne_of_lt (@lt_k o 1 (by decide)))
  generalize hset (hnew g (102, 100) (fun _ => defaultValue (aty 1))) o 0 (.ref (o + 1)) = g1 at *
  have kd1 : (g1.1 o).1 = 7 := by rw [c1]; exact kd
  have od1 : ∀ a, a < o → g1.1 a = g.1 a ∧ g1.2.1 a = g.2.1 a := fun a ha => by
    exact a1 a (Nat.ne_of_lt ha) (Nat.ne_of_lt (Nat.lt_trans ha (@lt_k o 1 (by decide))))
  exact ⟨rfl, ⟨od1, n1⟩, (by rw [c1]; exact k0), (by exact w1), (by exact s1)⟩
set_option maxHeartbeats 8000000 in
theorem i_Ma (hl : G.1.stackTraces = false) (ho : G.n0 ≤ o) (hn : g.2.2 = o + 1) (k0 : g.1 o = (4, 5)) : EvM G m_Ma_init [.ref o] g (fun r h' => r = .inl none ∧ NewO g h' o 6 ∧ (h'.1 o = (4, 5) ∧ (h'.2.1 o 0 = .ref (o + 1) ∧ h'.2.1 o 1 = .ref (o + 2) ∧ h'.2.1 o 2 = .ref (o + 3) ∧ h'.2.1 o 3 = .ref (o + 4) ∧ h'.2.1 o 4 = .ref (o + 5)) ∧ (h'.1 (o + 1) = (101, 7) ∧ h'.1 (o + 2) = (101, 10) ∧ h'.1 (o + 3) = (101, 7) ∧ h'.1 (o + 4) = (101, 7) ∧ h'.1 (o + 5) = (101, 128)))) := by
  have kd : (g.1 o).1 = 4 := by rw [k0]
  refine en_Ma_init g _ _ (e_Ma_init_0 hl g _ _ ?_)
  refine e_Ma_init_4 hl _ _ _ 0 0 ⟨by decide, by decide, ⟨ho, by rw [(hn_o (by rw [hn]; exact Nat.ne_of_lt (@lt_k o 1 (by decide)))).1]; exact kd⟩, ?_⟩
  rw [show Int32.toNatClampNeg (7 : Int32) = 7 from by decide, hn]
  obtain ⟨n1, a1, c1, s1, r1, f1, w1⟩ := mk_row (g := g) (o := o) (i := 0) (q := (101, 7)) (c := (fun _ => defaultValue (aty 0))) hn (Nat.ne_of_lt (@lt_k o 1 (by decide)))
  generalize hset (hnew g (101, 7) (fun _ => defaultValue (aty 0))) o 0 (.ref (o + 1)) = g1 at *
  have kd1 : (g1.1 o).1 = 4 := by rw [c1]; exact kd
  have od1 : ∀ a, a < o → g1.1 a = g.1 a ∧ g1.2.1 a = g.2.1 a := fun a ha => by
    exact a1 a (Nat.ne_of_lt ha) (Nat.ne_of_lt (Nat.lt_trans ha (@lt_k o 1 (by decide))))
  refine e_Ma_init_12 hl _ _ _ (0 + 1) (0 + 7) ⟨by decide, by decide, ⟨ho, by rw [(hn_o (by rw [n1]; exact Nat.ne_of_lt (@lt_k o 2 (by decide)))).1]; exact kd1⟩, ?_⟩
  rw [show Int32.toNatClampNeg (10 : Int32) = 10 from by decide, n1]
  obtain ⟨n2, a2, c2, s2, r2, f2, w2⟩ := mk_row (g := g1) (o := o) (i := 1) (q := (101, 10)) (c := (fun _ => defaultValue (aty 0))) n1 (Nat.ne_of_lt (@lt_k o 2 (by decide)))
  generalize hset (hnew g1 (101, 10) (fun _ => defaultValue (aty 0))) o 1 (.ref (o + 1 + 1)) = g2 at *
  have kd2 : (g2.1 o).1 = 4 := by rw [c2]; exact kd1
  have od2 : ∀ a, a < o → g2.1 a = g.1 a ∧ g2.2.1 a = g.2.1 a := fun a ha => by
    have y := a2 a (Nat.ne_of_lt ha) (Nat.ne_of_lt (Nat.lt_trans ha (@lt_k o 2 (by decide))))
    have z := od1 a ha
    exact ⟨by rw [y.1, z.1], by rw [y.2, z.2]⟩
  refine e_Ma_init_20 hl _ _ _ ((0 + 1) + 1) ((0 + 7) + 10) ⟨by decide, by decide, ⟨ho, by rw [(hn_o (by rw [n2]; exact Nat.ne_of_lt (@lt_k o 3 (by decide)))).1]; exact kd2⟩, ?_⟩
  rw [show Int32.toNatClampNeg (7 : Int32) = 7 from by decide, n2]
  obtain ⟨n3, a3, c3, s3, r3, f3, w3⟩ := mk_row (g := g2) (o := o) (i := 2) (q := (101, 7)) (c := (fun _ => defaultValue (aty 0))) n2 (Nat.ne_of_lt (@lt_k o 3 (by decide)))
  generalize hset (hnew g2 (101, 7) (fun _ => defaultValue (aty 0))) o 2 (.ref (o + 1 + 1 + 1)) = g3 at *
  have kd3 : (g3.1 o).1 = 4 := by rw [c3]; exact kd2
  have od3 : ∀ a, a < o → g3.1 a = g.1 a ∧ g3.2.1 a = g.2.1 a := fun a ha => by
    have y := a3 a (Nat.ne_of_lt ha) (Nat.ne_of_lt (Nat.lt_trans ha (@lt_k o 3 (by decide))))
    have z := od2 a ha
    exact ⟨by rw [y.1, z.1], by rw [y.2, z.2]⟩
  refine e_Ma_init_28 hl _ _ _ (((0 + 1) + 1) + 1) (((0 + 7) + 10) + 7) ⟨by decide, by decide, ⟨ho, by rw [(hn_o (by rw [n3]; exact Nat.ne_of_lt (@lt_k o 4 (by decide)))).1]; exact kd3⟩, ?_⟩
  rw [show Int32.toNatClampNeg (7 : Int32) = 7 from by decide, n3]
  obtain ⟨n4, a4, c4, s4, r4, f4, w4⟩ := mk_row (g := g3) (o := o) (i := 3) (q := (101, 7)) (c := (fun _ => defaultValue (aty 0))) n3 (Nat.ne_of_lt (@lt_k o 4 (by decide)))
  generalize hset (hnew g3 (101, 7) (fun _ => defaultValue (aty 0))) o 3 (.ref (o + 1 + 1 + 1 + 1)) = g4 at *
  have kd4 : (g4.1 o).1 = 4 := by rw [c4]; exact kd3
  have od4 : ∀ a, a < o → g4.1 a = g.1 a ∧ g4.2.1 a = g.2.1 a := fun a ha => by
    have y := a4 a (Nat.ne_of_lt ha) (Nat.ne_of_lt (Nat.lt_trans ha (@lt_k o 4 (by decide))))
    have z := od3 a ha
    exact ⟨by rw [y.1, z.1], by rw [y.2, z.2]⟩
  refine e_Ma_init_36 hl _ _ _ ((((0 + 1) + 1) + 1) + 1) ((((0 + 7) + 10) + 7) + 7) ⟨by decide, by decide, ⟨ho, by rw [(hn_o (by rw [n4]; exact Nat.ne_of_lt (@lt_k o 5 (by decide)))).1]; exact kd4⟩, ?_⟩
  rw [show Int32.toNatClampNeg (128 : Int32) = 128 from by decide, n4]
  obtain ⟨n5, a5, c5, s5, r5, f5, w5⟩ := mk_row (g := g4) (o := o) (i := 4) (q := (101, 128)) (c := (fun _ => defaultValue (aty 0))) n4 (Nat.ne_of_lt (@lt_k o 5 (by decide)))
  generalize hset (hnew g4 (101, 128) (fun _ => defaultValue (aty 0))) o 4 (.ref (o + 1 + 1 + 1 + 1 + 1)) = g5 at *
  have kd5 : (g5.1 o).1 = 4 := by rw [c5]; exact kd4
  have od5 : ∀ a, a < o → g5.1 a = g.1 a ∧ g5.2.1 a = g.2.1 a := fun a ha => by
    have y := a5 a (Nat.ne_of_lt ha) (Nat.ne_of_lt (Nat.lt_trans ha (@lt_k o 5 (by decide))))
    have z := od4 a ha
    exact ⟨by rw [y.1, z.1], by rw [y.2, z.2]⟩
  exact ⟨rfl, ⟨od5, n5⟩, (by rw [c5, c4, c3, c2, c1]; exact k0), ⟨(by rw [f5 0 (by decide), f4 0 (by decide), f3 0 (by decide), f2 0 (by decide)]; exact w1), (by rw [f5 1 (by decide), f4 1 (by decide), f3 1 (by decide)]; exact w2), (by rw [f5 2 (by decide), f4 2 (by decide)]; exact w3), (by rw [f5 3 (by decide)]; exact w4), (by exact w5)⟩, (by rw [(a5 (o + 1) (@ne_k0 o 1 (by decide)) (@ne_kk o 1 5 (by decide))).1, (a4 (o + 1) (@ne_k0 o 1 (by decide)) (@ne_kk o 1 4 (by decide))).1, (a3 (o + 1) (@ne_k0 o 1 (by decide)) (@ne_kk o 1 3 (by decide))).1, (a2 (o + 1) (@ne_k0 o 1 (by decide)) (@ne_kk o 1 2 (by decide))).1]; exact s1), (by rw [(a5 (o + 2) (@ne_k0 o 2 (by decide)) (@ne_kk o 2 5 (by decide))).1, (a4 (o + 2) (@ne_k0 o 2 (by decide)) (@ne_kk o 2 4 (by decide))).1, (a3 (o + 2) (@ne_k0 o 2 (by decide)) (@ne_kk o 2 3 (by decide))).1]; exact s2), (by rw [(a5 (o + 3) (@ne_k0 o 3 (by decide)) (@ne_kk o 3 5 (by decide))).1, (a4 (o + 3) (@ne_k0 o 3 (by decide)) (@ne_kk o 3 4 (by decide))).1]; exact s3), (by rw [(a5 (o + 4) (@ne_k0 o 4 (by decide)) (@ne_kk o 4 5 (by decide))).1]; exact s4), (by exact s5)⟩
set_option maxHeartbeats 8000000 in
theorem i_Re (hl : G.1.stackTraces = false) (ho : G.n0 ≤ o) (hn : g.2.2 = o + 1) (k0 : g.1 o = (5, 6)) : EvM G m_Re_init [.ref o] g (fun r h' => r = .inl none ∧ NewO g h' o 4 ∧ ((h'.1 o = (5, 6) ∧ h'.2.1 o 0 = .ref (o + 1) ∧ h'.2.1 o 1 = .ref (o + 2) ∧ h'.2.1 o 2 = .ref (o + 3)) ∧ (h'.1 (o + 1) = (105, 401) ∧ h'.1 (o + 2) = (101, 401) ∧ h'.1 (o + 3) = (101, 401)))) := by
  have kd : (g.1 o).1 = 5 := by rw [k0]
  refine en_Re_init g _ _ (e_Re_init_0 hl g _ _ ?_)
  refine e_Re_init_4 hl _ _ _ 0 0 ⟨by decide, by decide, ⟨ho, by rw [(hn_o (by rw [hn]; exact Nat.ne_of_lt (@lt_k o 1 (by decide)))).1]; exact kd⟩, ?_⟩
  rw [show Int32.toNatClampNeg (401 : Int32) = 401 from by decide, hn]
  obtain ⟨n1, a1, c1, s1, r1, f1, w1⟩ := mk_row (g := g) (o := o) (i := 0) (q := (105, 401)) (c := (fun _ => Value.null)) hn (Nat.ne_of_lt (@lt_k o 1 (by decide)))
  generalize hset (hnew g (105, 401) (fun _ => Value.null)) o 0 (.ref (o + 1)) = g1 at *
  have kd1 : (g1.1 o).1 = 5 := by rw [c1]; exact kd
  have od1 : ∀ a, a < o → g1.1 a = g.1 a ∧ g1.2.1 a = g.2.1 a := fun a ha => by
    exact a1 a (Nat.ne_of_lt ha) (Nat.ne_of_lt (Nat.lt_trans ha (@lt_k o 1 (by decide))))
  refine e_Re_init_14 hl _ _ _ (0 + 1) (0 + 401) ⟨by decide, by decide, ⟨ho, by rw [(hn_o (by rw [n1]; exact Nat.ne_of_lt (@lt_k o 2 (by decide)))).1]; exact kd1⟩, ?_⟩
  rw [show Int32.toNatClampNeg (401 : Int32) = 401 from by decide, n1]
  obtain ⟨n2, a2, c2, s2, r2, f2, w2⟩ := mk_row (g := g1) (o := o) (i := 1) (q := (101, 401)) (c := (fun _ => defaultValue (aty 0))) n1 (Nat.ne_of_lt (@lt_k o 2 (by decide)))
  generalize hset (hnew g1 (101, 401) (fun _ => defaultValue (aty 0))) o 1 (.ref (o + 1 + 1)) = g2 at *
  have kd2 : (g2.1 o).1 = 5 := by rw [c2]; exact kd1
  have od2 : ∀ a, a < o → g2.1 a = g.1 a ∧ g2.2.1 a = g.2.1 a := fun a ha => by
    have y := a2 a (Nat.ne_of_lt ha) (Nat.ne_of_lt (Nat.lt_trans ha (@lt_k o 2 (by decide))))
    have z := od1 a ha
    exact ⟨by rw [y.1, z.1], by rw [y.2, z.2]⟩
  refine e_Re_init_23 hl _ _ _ ((0 + 1) + 1) ((0 + 401) + 401) ⟨by decide, by decide, ⟨ho, by rw [(hn_o (by rw [n2]; exact Nat.ne_of_lt (@lt_k o 3 (by decide)))).1]; exact kd2⟩, ?_⟩
  rw [show Int32.toNatClampNeg (401 : Int32) = 401 from by decide, n2]
  obtain ⟨n3, a3, c3, s3, r3, f3, w3⟩ := mk_row (g := g2) (o := o) (i := 2) (q := (101, 401)) (c := (fun _ => defaultValue (aty 0))) n2 (Nat.ne_of_lt (@lt_k o 3 (by decide)))
  generalize hset (hnew g2 (101, 401) (fun _ => defaultValue (aty 0))) o 2 (.ref (o + 1 + 1 + 1)) = g3 at *
  have kd3 : (g3.1 o).1 = 5 := by rw [c3]; exact kd2
  have od3 : ∀ a, a < o → g3.1 a = g.1 a ∧ g3.2.1 a = g.2.1 a := fun a ha => by
    have y := a3 a (Nat.ne_of_lt ha) (Nat.ne_of_lt (Nat.lt_trans ha (@lt_k o 3 (by decide))))
    have z := od2 a ha
    exact ⟨by rw [y.1, z.1], by rw [y.2, z.2]⟩
  refine e_Re_init_32 hl _ _ _ (((0 + 1) + 1) + 1) (((0 + 401) + 401) + 401) ⟨⟨ho, kd3⟩, ?_⟩
  have n4 : (hset g3 o 3 (.int (0))).2.2 = o + 1 + 1 + 1 + 1 := n3
  have a4 : ∀ a, a ≠ o → (hset g3 o 3 (.int (0))).1 a = g3.1 a ∧ (hset g3 o 3 (.int (0))).2.1 a = g3.2.1 a := fun a na => ⟨rfl, funext fun j => hs_ne (fun z => na z.1)⟩
  have c4 : (hset g3 o 3 (.int (0))).1 o = g3.1 o := rfl
  have f4 : ∀ j, j ≠ 3 → (hset g3 o 3 (.int (0))).2.1 o j = g3.2.1 o j := fun j hj => hs_ne (fun z => hj z.2)
  have w4 : (hset g3 o 3 (.int (0))).2.1 o 3 = .int (0) := hs_eq
  generalize hset g3 o 3 (.int (0)) = g4 at *
  have kd4 : (g4.1 o).1 = 5 := by rw [c4]; exact kd3
  have od4 : ∀ a, a < o → g4.1 a = g.1 a ∧ g4.2.1 a = g.2.1 a := fun a ha => by
    have y := a4 a (Nat.ne_of_lt ha)
    have z := od3 a ha
    exact ⟨by rw [y.1, z.1], by rw [y.2, z.2]⟩
  refine e_Re_init_37 hl _ _ _ (((0 + 1) + 1) + 1) (((0 + 401) + 401) + 401) ⟨⟨ho, kd4⟩, ?_⟩
  have n5 : (hset g4 o 4 (.int (0))).2.2 = o + 1 + 1 + 1 + 1 := n4
  have a5 : ∀ a, a ≠ o → (hset g4 o 4 (.int (0))).1 a = g4.1 a ∧ (hset g4 o 4 (.int (0))).2.1 a = g4.2.1 a := fun a na => ⟨rfl, funext fun j => hs_ne (fun z => na z.1)⟩
  have c5 : (hset g4 o 4 (.int (0))).1 o = g4.1 o := rfl
  have f5 : ∀ j, j ≠ 4 → (hset g4 o 4 (.int (0))).2.1 o j = g4.2.1 o j := fun j hj => hs_ne (fun z => hj z.2)
  have w5 : (hset g4 o 4 (.int (0))).2.1 o 4 = .int (0) := hs_eq
  generalize hset g4 o 4 (.int (0)) = g5 at *
  have kd5 : (g5.1 o).1 = 5 := by rw [c5]; exact kd4
  have od5 : ∀ a, a < o → g5.1 a = g.1 a ∧ g5.2.1 a = g.2.1 a := fun a ha => by
    have y := a5 a (Nat.ne_of_lt ha)
    have z := od4 a ha
    exact ⟨by rw [y.1, z.1], by rw [y.2, z.2]⟩
  refine e_Re_init_42 hl _ _ _ (((0 + 1) + 1) + 1) (((0 + 401) + 401) + 401) ⟨⟨ho, kd5⟩, ?_⟩
  have n6 : (hset g5 o 5 (.int (0))).2.2 = o + 1 + 1 + 1 + 1 := n5
  have a6 : ∀ a, a ≠ o → (hset g5 o 5 (.int (0))).1 a = g5.1 a ∧ (hset g5 o 5 (.int (0))).2.1 a = g5.2.1 a := fun a na => ⟨rfl, funext fun j => hs_ne (fun z => na z.1)⟩
  have c6 : (hset g5 o 5 (.int (0))).1 o = g5.1 o := rfl
  have f6 : ∀ j, j ≠ 5 → (hset g5 o 5 (.int (0))).2.1 o j = g5.2.1 o j := fun j hj => hs_ne (fun z => hj z.2)
  have w6 : (hset g5 o 5 (.int (0))).2.1 o 5 = .int (0) := hs_eq
  generalize hset g5 o 5 (.int (0)) = g6 at *
  have kd6 : (g6.1 o).1 = 5 := by rw [c6]; exact kd5
  have od6 : ∀ a, a < o → g6.1 a = g.1 a ∧ g6.2.1 a = g.2.1 a := fun a ha => by
    have y := a6 a (Nat.ne_of_lt ha)
    have z := od5 a ha
    exact ⟨by rw [y.1, z.1], by rw [y.2, z.2]⟩
  exact ⟨rfl, ⟨od6, n6⟩, ⟨(by rw [c6, c5, c4, c3, c2, c1]; exact k0), (by rw [f6 0 (by decide), f5 0 (by decide), f4 0 (by decide), f3 0 (by decide), f2 0 (by decide)]; exact w1), (by rw [f6 1 (by decide), f5 1 (by decide), f4 1 (by decide), f3 1 (by decide)]; exact w2), (by rw [f6 2 (by decide), f5 2 (by decide), f4 2 (by decide)]; exact w3)⟩, (by rw [(a6 (o + 1) (@ne_k0 o 1 (by decide))).1, (a5 (o + 1) (@ne_k0 o 1 (by decide))).1, (a4 (o + 1) (@ne_k0 o 1 (by decide))).1, (a3 (o + 1) (@ne_k0 o 1 (by decide)) (@ne_kk o 1 3 (by decide))).1, (a2 (o + 1) (@ne_k0 o 1 (by decide)) (@ne_kk o 1 2 (by decide))).1]; exact s1), (by rw [(a6 (o + 2) (@ne_k0 o 2 (by decide))).1, (a5 (o + 2) (@ne_k0 o 2 (by decide))).1, (a4 (o + 2) (@ne_k0 o 2 (by decide))).1, (a3 (o + 2) (@ne_k0 o 2 (by decide)) (@ne_kk o 2 3 (by decide))).1]; exact s2), (by rw [(a6 (o + 3) (@ne_k0 o 3 (by decide))).1, (a5 (o + 3) (@ne_k0 o 3 (by decide))).1, (a4 (o + 3) (@ne_k0 o 3 (by decide))).1]; exact s3)⟩
set_option maxHeartbeats 8000000 in
theorem i_Lr (hl : G.1.stackTraces = false) (ho : G.n0 ≤ o) {l1 : Nat} (hn : g.2.2 = o + 1) (k0 : g.1 o = (2, 7)) : EvM G m_Lr_init [.ref o, .ref l1] g (fun r h' => r = .inl none ∧ NewO g h' o 5 ∧ ((h'.1 o = (2, 7) ∧ h'.2.1 o 0 = .ref l1 ∧ h'.2.1 o 1 = .ref (o + 1) ∧ h'.2.1 o 2 = .ref (o + 2) ∧ h'.2.1 o 3 = .ref (o + 3) ∧ h'.2.1 o 4 = .ref (o + 4)) ∧ (h'.1 (o + 1) = (101, 12) ∧ h'.1 (o + 2) = (101, 12) ∧ h'.1 (o + 3) = (101, 12) ∧ h'.1 (o + 4) = (101, 800)) ∧ (h'.2.1 (o + 1) = fun _ => .int 0) ∧ (h'.2.1 (o + 2) = fun _ => .int 0) ∧ (h'.2.1 (o + 3) = fun _ => .int 0))) := by
  have kd : (g.1 o).1 = 2 := by rw [k0]
  refine en_Lr_init g _ _ _ (e_Lr_init_0 hl g _ _ _ ?_)
  refine e_Lr_init_4 hl _ _ _ _ 0 0 ⟨by decide, by decide, ⟨ho, by rw [(hn_o (by rw [hn]; exact Nat.ne_of_lt (@lt_k o 1 (by decide)))).1]; exact kd⟩, ?_⟩
  rw [show Int32.toNatClampNeg (12 : Int32) = 12 from by decide, hn]
  obtain ⟨n1, a1, c1, s1, r1, f1, w1⟩ := mk_row (g := g) (o := o) (i := 1) (q := (101, 12)) (c := (fun _ => defaultValue (aty 0))) hn (Nat.ne_of_lt (@lt_k o 1 (by decide)))
  generalize hset (hnew g (101, 12) (fun _ => defaultValue (aty 0))) o 1 (.ref (o + 1)) = g1 at *
  have kd1 : (g1.1 o).1 = 2 := by rw [c1]; exact kd
  have od1 : ∀ a, a < o → g1.1 a = g.1 a ∧ g1.2.1 a = g.2.1 a := fun a ha => by
    exact a1 a (Nat.ne_of_lt ha) (Nat.ne_of_lt (Nat.lt_trans ha (@lt_k o 1 (by decide))))
  refine e_Lr_init_12 hl _ _ _ _ (0 + 1) (0 + 12) ⟨by decide, by decide, ⟨ho, by rw [(hn_o (by rw [n1]; exact Nat.ne_of_lt (@lt_k o 2 (by decide)))).1]; exact kd1⟩, ?_⟩
  rw [show Int32.toNatClampNeg (12 : Int32) = 12 from by decide, n1]
  obtain ⟨n2, a2, c2, s2, r2, f2, w2⟩ := mk_row (g := g1) (o := o) (i := 2) (q := (101, 12)) (c := (fun _ => defaultValue (aty 0))) n1 (Nat.ne_of_lt (@lt_k o 2 (by decide)))
  generalize hset (hnew g1 (101, 12) (fun _ => defaultValue (aty 0))) o 2 (.ref (o + 1 + 1)) = g2 at *
  have kd2 : (g2.1 o).1 = 2 := by rw [c2]; exact kd1
  have od2 : ∀ a, a < o → g2.1 a = g.1 a ∧ g2.2.1 a = g.2.1 a := fun a ha => by
    have y := a2 a (Nat.ne_of_lt ha) (Nat.ne_of_lt (Nat.lt_trans ha (@lt_k o 2 (by decide))))
    have z := od1 a ha
    exact ⟨by rw [y.1, z.1], by rw [y.2, z.2]⟩
  refine e_Lr_init_20 hl _ _ _ _ ((0 + 1) + 1) ((0 + 12) + 12) ⟨by decide, by decide, ⟨ho, by rw [(hn_o (by rw [n2]; exact Nat.ne_of_lt (@lt_k o 3 (by decide)))).1]; exact kd2⟩, ?_⟩
  rw [show Int32.toNatClampNeg (12 : Int32) = 12 from by decide, n2]
  obtain ⟨n3, a3, c3, s3, r3, f3, w3⟩ := mk_row (g := g2) (o := o) (i := 3) (q := (101, 12)) (c := (fun _ => defaultValue (aty 0))) n2 (Nat.ne_of_lt (@lt_k o 3 (by decide)))
  generalize hset (hnew g2 (101, 12) (fun _ => defaultValue (aty 0))) o 3 (.ref (o + 1 + 1 + 1)) = g3 at *
  have kd3 : (g3.1 o).1 = 2 := by rw [c3]; exact kd2
  have od3 : ∀ a, a < o → g3.1 a = g.1 a ∧ g3.2.1 a = g.2.1 a := fun a ha => by
    have y := a3 a (Nat.ne_of_lt ha) (Nat.ne_of_lt (Nat.lt_trans ha (@lt_k o 3 (by decide))))
    have z := od2 a ha
    exact ⟨by rw [y.1, z.1], by rw [y.2, z.2]⟩
  refine e_Lr_init_28 hl _ _ _ _ (((0 + 1) + 1) + 1) (((0 + 12) + 12) + 12) ⟨by decide, by decide, ⟨ho, by rw [(hn_o (by rw [n3]; exact Nat.ne_of_lt (@lt_k o 4 (by decide)))).1]; exact kd3⟩, ?_⟩
  rw [show Int32.toNatClampNeg (800 : Int32) = 800 from by decide, n3]
  obtain ⟨n4, a4, c4, s4, r4, f4, w4⟩ := mk_row (g := g3) (o := o) (i := 4) (q := (101, 800)) (c := (fun _ => defaultValue (aty 0))) n3 (Nat.ne_of_lt (@lt_k o 4 (by decide)))
  generalize hset (hnew g3 (101, 800) (fun _ => defaultValue (aty 0))) o 4 (.ref (o + 1 + 1 + 1 + 1)) = g4 at *
  have kd4 : (g4.1 o).1 = 2 := by rw [c4]; exact kd3
  have od4 : ∀ a, a < o → g4.1 a = g.1 a ∧ g4.2.1 a = g.2.1 a := fun a ha => by
    have y := a4 a (Nat.ne_of_lt ha) (Nat.ne_of_lt (Nat.lt_trans ha (@lt_k o 4 (by decide))))
    have z := od3 a ha
    exact ⟨by rw [y.1, z.1], by rw [y.2, z.2]⟩
  refine e_Lr_init_37 hl _ _ _ _ ((((0 + 1) + 1) + 1) + 1) ((((0 + 12) + 12) + 12) + 800) ⟨⟨ho, kd4⟩, ?_⟩
  have n5 : (hset g4 o 5 (.int (0))).2.2 = o + 1 + 1 + 1 + 1 + 1 := n4
  have a5 : ∀ a, a ≠ o → (hset g4 o 5 (.int (0))).1 a = g4.1 a ∧ (hset g4 o 5 (.int (0))).2.1 a = g4.2.1 a := fun a na => ⟨rfl, funext fun j => hs_ne (fun z => na z.1)⟩
  have c5 : (hset g4 o 5 (.int (0))).1 o = g4.1 o := rfl
  have f5 : ∀ j, j ≠ 5 → (hset g4 o 5 (.int (0))).2.1 o j = g4.2.1 o j := fun j hj => hs_ne (fun z => hj z.2)
  have w5 : (hset g4 o 5 (.int (0))).2.1 o 5 = .int (0) := hs_eq
  generalize hset g4 o 5 (.int (0)) = g5 at *
  have kd5 : (g5.1 o).1 = 2 := by rw [c5]; exact kd4
  have od5 : ∀ a, a < o → g5.1 a = g.1 a ∧ g5.2.1 a = g.2.1 a := fun a ha => by
    have y := a5 a (Nat.ne_of_lt ha)
    have z := od4 a ha
    exact ⟨by rw [y.1, z.1], by rw [y.2, z.2]⟩
  refine e_Lr_init_42 hl _ _ _ _ ((((0 + 1) + 1) + 1) + 1) ((((0 + 12) + 12) + 12) + 800) ⟨⟨ho, kd5⟩, ?_⟩
  have n6 : (hset g5 o 6 (.int (0))).2.2 = o + 1 + 1 + 1 + 1 + 1 := n5
  have a6 : ∀ a, a ≠ o → (hset g5 o 6 (.int (0))).1 a = g5.1 a ∧ (hset g5 o 6 (.int (0))).2.1 a = g5.2.1 a := fun a na => ⟨rfl, funext fun j => hs_ne (fun z => na z.1)⟩
  have c6 : (hset g5 o 6 (.int (0))).1 o = g5.1 o := rfl
  have f6 : ∀ j, j ≠ 6 → (hset g5 o 6 (.int (0))).2.1 o j = g5.2.1 o j := fun j hj => hs_ne (fun z => hj z.2)
  have w6 : (hset g5 o 6 (.int (0))).2.1 o 6 = .int (0) := hs_eq
  generalize hset g5 o 6 (.int (0)) = g6 at *
  have kd6 : (g6.1 o).1 = 2 := by rw [c6]; exact kd5
  have od6 : ∀ a, a < o → g6.1 a = g.1 a ∧ g6.2.1 a = g.2.1 a := fun a ha => by
    have y := a6 a (Nat.ne_of_lt ha)
    have z := od5 a ha
    exact ⟨by rw [y.1, z.1], by rw [y.2, z.2]⟩
  refine e_Lr_init_47 hl _ _ _ _ ((((0 + 1) + 1) + 1) + 1) ((((0 + 12) + 12) + 12) + 800) ⟨⟨ho, kd6⟩, ?_⟩
  have n7 : (hset g6 o 0 (.ref l1)).2.2 = o + 1 + 1 + 1 + 1 + 1 := n6
  have a7 : ∀ a, a ≠ o → (hset g6 o 0 (.ref l1)).1 a = g6.1 a ∧ (hset g6 o 0 (.ref l1)).2.1 a = g6.2.1 a := fun a na => ⟨rfl, funext fun j => hs_ne (fun z => na z.1)⟩
  have c7 : (hset g6 o 0 (.ref l1)).1 o = g6.1 o := rfl
  have f7 : ∀ j, j ≠ 0 → (hset g6 o 0 (.ref l1)).2.1 o j = g6.2.1 o j := fun j hj => hs_ne (fun z => hj z.2)
  have w7 : (hset g6 o 0 (.ref l1)).2.1 o 0 = .ref l1 := hs_eq
  generalize hset g6 o 0 (.ref l1) = g7 at *
  have kd7 : (g7.1 o).1 = 2 := by rw [c7]; exact kd6
  have od7 : ∀ a, a < o → g7.1 a = g.1 a ∧ g7.2.1 a = g.2.1 a := fun a ha => by
    have y := a7 a (Nat.ne_of_lt ha)
    have z := od6 a ha
    exact ⟨by rw [y.1, z.1], by rw [y.2, z.2]⟩
  exact ⟨rfl, ⟨od7, n7⟩, ⟨(by rw [c7, c6, c5, c4, c3, c2, c1]; exact k0), (by exact w7), (by rw [f7 1 (by decide), f6 1 (by decide), f5 1 (by decide), f4 1 (by decide), f3 1 (by decide), f2 1 (by decide)]; exact w1), (by rw [f7 2 (by decide), f6 2 (by decide), f5 2 (by decide), f4 2 (by decide), f3 2 (by decide)]; exact w2), (by rw [f7 3 (by decide), f6 3 (by decide), f5 3 (by decide), f4 3 (by decide)]; exact w3), (by rw [f7 4 (by decide), f6 4 (by decide), f5 4 (by decide)]; exact w4)⟩, ⟨(by rw [(a7 (o + 1) (@ne_k0 o 1 (by decide))).1, (a6 (o + 1) (@ne_k0 o 1 (by decide))).1, (a5 (o + 1) (@ne_k0 o 1 (by decide))).1, (a4 (o + 1) (@ne_k0 o 1 (by decide)) (@ne_kk o 1 4 (by decide))).1, (a3 (o + 1) (@ne_k0 o 1 (by decide)) (@ne_kk o 1 3 (by decide))).1, (a2 (o + 1) (@ne_k0 o 1 (by decide)) (@ne_kk o 1 2 (by decide))).1]; exact s1), (by rw [(a7 (o + 2) (@ne_k0 o 2 (by decide))).1, (a6 (o + 2) (@ne_k0 o 2 (by decide))).1, (a5 (o + 2) (@ne_k0 o 2 (by decide))).1, (a4 (o + 2) (@ne_k0 o 2 (by decide)) (@ne_kk o 2 4 (by decide))).1, (a3 (o + 2) (@ne_k0 o 2 (by decide)) (@ne_kk o 2 3 (by decide))).1]; exact s2), (by rw [(a7 (o + 3) (@ne_k0 o 3 (by decide))).1, (a6 (o + 3) (@ne_k0 o 3 (by decide))).1, (a5 (o + 3) (@ne_k0 o 3 (by decide))).1, (a4 (o + 3) (@ne_k0 o 3 (by decide)) (@ne_kk o 3 4 (by decide))).1]; exact s3), (by rw [(a7 (o + 4) (@ne_k0 o 4 (by decide))).1, (a6 (o + 4) (@ne_k0 o 4 (by decide))).1, (a5 (o + 4) (@ne_k0 o 4 (by decide))).1]; exact s4)⟩, (by rw [(a7 (o + 1) (@ne_k0 o 1 (by decide))).2, (a6 (o + 1) (@ne_k0 o 1 (by decide))).2, (a5 (o + 1) (@ne_k0 o 1 (by decide))).2, (a4 (o + 1) (@ne_k0 o 1 (by decide)) (@ne_kk o 1 4 (by decide))).2, (a3 (o + 1) (@ne_k0 o 1 (by decide)) (@ne_kk o 1 3 (by decide))).2, (a2 (o + 1) (@ne_k0 o 1 (by decide)) (@ne_kk o 1 2 (by decide))).2]; exact r1), (by rw [(a7 (o + 2) (@ne_k0 o 2 (by decide))).2, (a6 (o + 2) (@ne_k0 o 2 (by decide))).2, (a5 (o + 2) (@ne_k0 o 2 (by decide))).2, (a4 (o + 2) (@ne_k0 o 2 (by decide)) (@ne_kk o 2 4 (by decide))).2, (a3 (o + 2) (@ne_k0 o 2 (by decide)) (@ne_kk o 2 3 (by decide))).2]; exact r2), (by rw [(a7 (o + 3) (@ne_k0 o 3 (by decide))).2, (a6 (o + 3) (@ne_k0 o 3 (by decide))).2, (a5 (o + 3) (@ne_k0 o 3 (by decide))).2, (a4 (o + 3) (@ne_k0 o 3 (by decide)) (@ne_kk o 3 4 (by decide))).2]; exact r3)⟩
set_option maxHeartbeats 8000000 in
theorem i_La (hl : G.1.stackTraces = false) (ho : G.n0 ≤ o) (hn : g.2.2 = o + 1) (k0 : g.1 o = (1, 5)) : EvM G m_La_init [.ref o] g (fun r h' => r = .inl none ∧ NewO g h' o 5 ∧ (h'.1 o = (1, 5) ∧ h'.2.1 o 0 = .int (-1))) := by
  have kd : (g.1 o).1 = 1 := by rw [k0]
  refine en_La_init g _ _ (e_La_init_0 hl g _ _ ?_)
  refine e_La_init_4 hl _ _ _ 0 0 ⟨⟨ho, kd⟩, ?_⟩
  have n1 : (hset g o 0 (.int (-1))).2.2 = o + 1 := hn
  have a1 : ∀ a, a ≠ o → (hset g o 0 (.int (-1))).1 a = g.1 a ∧ (hset g o 0 (.int (-1))).2.1 a = g.2.1 a := fun a na => ⟨rfl, funext fun j => hs_ne (fun z => na z.1)⟩
  have c1 : (hset g o 0 (.int (-1))).1 o = g.1 o := rfl
  have f1 : ∀ j, j ≠ 0 → (hset g o 0 (.int (-1))).2.1 o j = g.2.1 o j := fun j hj => hs_ne (fun z => hj z.2)
  have w1 : (hset g o 0 (.int (-1))).2.1 o 0 = .int (-1) := hs_eq
  generalize hset g o 0 (.int (-1)) = g1 at *
  have kd1 : (g1.1 o).1 = 1 := by rw [c1]; exact kd
  have od1 : ∀ a, a < o → g1.1 a = g.1 a ∧ g1.2.1 a = g.2.1 a := fun a ha => by
    exact a1 a (Nat.ne_of_lt ha)
  refine e_La_init_9 hl _ _ _ 0 0 ⟨by decide, by decide, ⟨ho, by rw [(hn_o (by rw [n1]; exact Nat.ne_of_lt (@lt_k o 1 (by decide)))).1]; exact kd1⟩, ?_⟩
  rw [show Int32.toNatClampNeg (0 : Int32) = 0 from by decide, n1]
  obtain ⟨n2, a2, c2, s2, r2, f2, w2⟩ := mk_row (g := g1) (o := o) (i := 1) (q := (101, 0)) (c := (fun _ => defaultValue (aty 0))) n1 (Nat.ne_of_lt (@lt_k o 1 (by decide)))
  generalize hset (hnew g1 (101, 0) (fun _ => defaultValue (aty 0))) o 1 (.ref (o + 1)) = g2 at *
  have kd2 : (g2.1 o).1 = 1 := by rw [c2]; exact kd1
  have od2 : ∀ a, a < o → g2.1 a = g.1 a ∧ g2.2.1 a = g.2.1 a := fun a ha => by
    have y := a2 a (Nat.ne_of_lt ha) (Nat.ne_of_lt (Nat.lt_trans ha (@lt_k o 1 (by decide))))
    have z := od1 a ha
    exact ⟨by rw [y.1, z.1], by rw [y.2, z.2]⟩
  refine e_La_init_16 hl _ _ _ (0 + 1) (0 + 0) ⟨by decide, by decide, ⟨ho, by rw [(hn_o (by rw [n2]; exact Nat.ne_of_lt (@lt_k o 2 (by decide)))).1]; exact kd2⟩, ?_⟩
  rw [show Int32.toNatClampNeg (0 : Int32) = 0 from by decide, n2]
  obtain ⟨n3, a3, c3, s3, r3, f3, w3⟩ := mk_row (g := g2) (o := o) (i := 2) (q := (101, 0)) (c := (fun _ => defaultValue (aty 0))) n2 (Nat.ne_of_lt (@lt_k o 2 (by decide)))
  generalize hset (hnew g2 (101, 0) (fun _ => defaultValue (aty 0))) o 2 (.ref (o + 1 + 1)) = g3 at *
  have kd3 : (g3.1 o).1 = 1 := by rw [c3]; exact kd2
  have od3 : ∀ a, a < o → g3.1 a = g.1 a ∧ g3.2.1 a = g.2.1 a := fun a ha => by
    have y := a3 a (Nat.ne_of_lt ha) (Nat.ne_of_lt (Nat.lt_trans ha (@lt_k o 2 (by decide))))
    have z := od2 a ha
    exact ⟨by rw [y.1, z.1], by rw [y.2, z.2]⟩
  refine e_La_init_23 hl _ _ _ ((0 + 1) + 1) ((0 + 0) + 0) ⟨by decide, by decide, ⟨ho, by rw [(hn_o (by rw [n3]; exact Nat.ne_of_lt (@lt_k o 3 (by decide)))).1]; exact kd3⟩, ?_⟩
  rw [show Int32.toNatClampNeg (0 : Int32) = 0 from by decide, n3]
  obtain ⟨n4, a4, c4, s4, r4, f4, w4⟩ := mk_row (g := g3) (o := o) (i := 3) (q := (101, 0)) (c := (fun _ => defaultValue (aty 0))) n3 (Nat.ne_of_lt (@lt_k o 3 (by decide)))
  generalize hset (hnew g3 (101, 0) (fun _ => defaultValue (aty 0))) o 3 (.ref (o + 1 + 1 + 1)) = g4 at *
  have kd4 : (g4.1 o).1 = 1 := by rw [c4]; exact kd3
  have od4 : ∀ a, a < o → g4.1 a = g.1 a ∧ g4.2.1 a = g.2.1 a := fun a ha => by
    have y := a4 a (Nat.ne_of_lt ha) (Nat.ne_of_lt (Nat.lt_trans ha (@lt_k o 3 (by decide))))
    have z := od3 a ha
    exact ⟨by rw [y.1, z.1], by rw [y.2, z.2]⟩
  refine e_La_init_30 hl _ _ _ (((0 + 1) + 1) + 1) (((0 + 0) + 0) + 0) ⟨by decide, by decide, ⟨ho, by rw [(hn_o (by rw [n4]; exact Nat.ne_of_lt (@lt_k o 4 (by decide)))).1]; exact kd4⟩, ?_⟩
  rw [show Int32.toNatClampNeg (0 : Int32) = 0 from by decide, n4]
  obtain ⟨n5, a5, c5, s5, r5, f5, w5⟩ := mk_row (g := g4) (o := o) (i := 4) (q := (101, 0)) (c := (fun _ => defaultValue (aty 0))) n4 (Nat.ne_of_lt (@lt_k o 4 (by decide)))
  generalize hset (hnew g4 (101, 0) (fun _ => defaultValue (aty 0))) o 4 (.ref (o + 1 + 1 + 1 + 1)) = g5 at *
  have kd5 : (g5.1 o).1 = 1 := by rw [c5]; exact kd4
  have od5 : ∀ a, a < o → g5.1 a = g.1 a ∧ g5.2.1 a = g.2.1 a := fun a ha => by
    have y := a5 a (Nat.ne_of_lt ha) (Nat.ne_of_lt (Nat.lt_trans ha (@lt_k o 4 (by decide))))
    have z := od4 a ha
    exact ⟨by rw [y.1, z.1], by rw [y.2, z.2]⟩
  exact ⟨rfl, ⟨od5, n5⟩, (by rw [c5, c4, c3, c2, c1]; exact k0), (by rw [f5 0 (by decide), f4 0 (by decide), f3 0 (by decide), f2 0 (by decide)]; exact w1)⟩
end CTR
