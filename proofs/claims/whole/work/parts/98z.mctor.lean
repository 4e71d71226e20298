section CTR
variable {G : Gx} {g : Hp} {o : Nat}
theorem mo_end {gz : Hp} {cs ss : Nat} (hl : G.1.stackTraces = false) (ho : G.n0 ≤ o) (kdz : (gz.1 o).1 = 11) (S : ModSh gz o) (z1 : gz.2.1 (o + 1) = fun _ => .int 0) (z5 : gz.2.1 (o + 5) = fun _ => .int 0) (z6 : gz.2.1 (o + 6) = fun _ => .int 0) (un : ∀ j, j = 0 ∨ j = 6 ∨ j = 7 ∨ j = 9 ∨ j = 10 ∨ j = 11 ∨ j = 12 ∨ j = 13 ∨ j = 16 → gz.2.1 o j = g.2.1 o j) (v14 : gz.2.1 o 14 = .int (-1)) (od : ∀ a, a < o → gz.1 a = g.1 a ∧ gz.2.1 a = g.2.1 a) (nn : gz.2.2 = o + 16) : Ev G m_Mo_init 137 [.ref o] [] gz cs ss (fun r h' => r = .inl none ∧ NewO g h' o 16 ∧ (ModSh h' o ∧ (∀ j, h'.2.1 (o + 1) j = .int (if j = 8 then 1 else if j = 5 then 2 else 0)) ∧ (∀ j, h'.2.1 (o + 5) j = .int 0) ∧ (∀ j, h'.2.1 (o + 6) j = .int 0) ∧ (∀ j, j = 0 ∨ j = 6 ∨ j = 7 ∨ j = 9 ∨ j = 10 ∨ j = 11 ∨ j = 12 ∨ j = 13 ∨ j = 16 → h'.2.1 o j = g.2.1 o j) ∧ h'.2.1 o 14 = .int (-1))) := by
  have f1 : gz.2.1 o 1 = .ref (o + 1) := S.1.2.1
  have s1 : gz.1 (o + 1) = (101, 2092) := S.2.1
  refine e_Mo_init_137 hl _ _ _ _ _ ⟨o + 1, ⟨kdz, f1⟩, aW_of (i := 8) (by omega) s1 (by decide) (by decide), ?_⟩
  show Ev G m_Mo_init 145 [.ref o] [] (hset gz (o + 1) 8 (.int 1)) _ _ _
  refine e_Mo_init_145 hl _ _ _ _ _ ⟨o + 1, ⟨kdz, by rw [hs_ne (by omega)]; exact f1⟩, aW_of (i := 5) (by omega) s1 (by decide) (by decide), ?_⟩
  rw [show Int32.toNatClampNeg (5 : Int32) = 5 from by decide]
  have N : (hset (hset gz (o + 1) 8 (.int 1)) (o + 1) 5 (.int 2)).2.2 = o + 16 := nn
  have F : Fs (fun a j => a = o + 1 ∧ (j = 8 ∨ j = 5)) gz (hset (hset gz (o + 1) 8 (.int 1)) (o + 1) 5 (.int 2)) := (Fs.rf.set ⟨rfl, Or.inl rfl⟩).set ⟨rfl, Or.inr rfl⟩
  have W : ∀ j, (hset (hset gz (o + 1) 8 (.int 1)) (o + 1) 5 (.int 2)).2.1 (o + 1) j = .int (if j = 8 then 1 else if j = 5 then 2 else 0) := fun j => by
    by_cases c5 : j = 5
    · subst c5; rw [hs_eq]; rfl
    · rw [hs_ne (by omega)]
      by_cases c8 : j = 8
      · subst c8; rw [hs_eq]; rfl
      · rw [hs_ne (by omega), z1, if_neg c8, if_neg c5]
  generalize hset (hset gz (o + 1) 8 (.int 1)) (o + 1) 5 (.int 2) = q at *
  obtain ⟨F1, F2, F3⟩ := F
  refine ⟨rfl, ⟨fun a ha => ⟨by rw [F1]; exact (od a ha).1, ?_⟩, N⟩, ?_, W, fun j => ?_, fun j => ?_, fun j hj => ?_, ?_⟩
  · rw [← (od a ha).2]; funext j; exact F3 a j (by omega)
  · exact S.keep (fun a _ _ => by rw [F1]) (fun j hj => F3 _ _ (by omega))
  · rw [F3 _ _ (by omega), z5]
  · rw [F3 _ _ (by omega), z6]
  · rw [F3 _ _ (by omega)]; exact un j hj
  · rw [F3 _ _ (by omega)]; exact v14

set_option maxHeartbeats 8000000 in
theorem i_Mo (hl : G.1.stackTraces = false) (ho : G.n0 ≤ o) (hn : g.2.2 = o + 1) (k0 : g.1 o = (11, 25)) : EvM G m_Mo_init [.ref o] g (fun r h' => r = .inl none ∧ NewO g h' o 16 ∧ (ModSh h' o ∧ (∀ j, h'.2.1 (o + 1) j = .int (if j = 8 then 1 else if j = 5 then 2 else 0)) ∧ (∀ j, h'.2.1 (o + 5) j = .int 0) ∧ (∀ j, h'.2.1 (o + 6) j = .int 0) ∧ (∀ j, j = 0 ∨ j = 6 ∨ j = 7 ∨ j = 9 ∨ j = 10 ∨ j = 11 ∨ j = 12 ∨ j = 13 ∨ j = 16 → h'.2.1 o j = g.2.1 o j) ∧ h'.2.1 o 14 = .int (-1))) := by
  have kd : (g.1 o).1 = 11 := by rw [k0]
  refine en_Mo_init g _ _ (e_Mo_init_0 hl g _ _ ?_)
  refine e_Mo_init_4 hl _ _ _ 0 0 ⟨by decide, by decide, ⟨ho, by rw [(hn_o (by rw [hn]; exact Nat.ne_of_lt (@lt_k o 1 (by decide)))).1]; exact kd⟩, ?_⟩
  rw [show Int32.toNatClampNeg (2092 : Int32) = 2092 from by decide, hn]
  obtain ⟨n1, a1, c1, s1, r1, f1, w1⟩ := mk_row (g := g) (o := o) (i := 1) (q := (101, 2092)) (c := (fun _ => defaultValue (aty 0))) hn (Nat.ne_of_lt (@lt_k o 1 (by decide)))
  generalize hset (hnew g (101, 2092) (fun _ => defaultValue (aty 0))) o 1 (.ref (o + 1)) = g1 at *
  have kd1 : (g1.1 o).1 = 11 := by rw [c1]; exact kd
  have od1 : ∀ a, a < o → g1.1 a = g.1 a ∧ g1.2.1 a = g.2.1 a := fun a ha => by
    exact a1 a (Nat.ne_of_lt ha) (Nat.ne_of_lt (Nat.lt_trans ha (@lt_k o 1 (by decide))))
  refine e_Mo_init_13 hl _ _ _ (0 + 1) (0 + 2092) ⟨by decide, by decide, ⟨ho, by rw [(hn_o (by rw [n1]; exact Nat.ne_of_lt (@lt_k o 2 (by decide)))).1]; exact kd1⟩, ?_⟩
  rw [show Int32.toNatClampNeg (1243 : Int32) = 1243 from by decide, n1]
  obtain ⟨n2, a2, c2, s2, r2, f2, w2⟩ := mk_row (g := g1) (o := o) (i := 2) (q := (101, 1243)) (c := (fun _ => defaultValue (aty 0))) n1 (Nat.ne_of_lt (@lt_k o 2 (by decide)))
  generalize hset (hnew g1 (101, 1243) (fun _ => defaultValue (aty 0))) o 2 (.ref (o + 1 + 1)) = g2 at *
  have kd2 : (g2.1 o).1 = 11 := by rw [c2]; exact kd1
  have od2 : ∀ a, a < o → g2.1 a = g.1 a ∧ g2.2.1 a = g.2.1 a := fun a ha => by
    have y := a2 a (Nat.ne_of_lt ha) (Nat.ne_of_lt (Nat.lt_trans ha (@lt_k o 2 (by decide))))
    have z := od1 a ha
    exact ⟨by rw [y.1, z.1], by rw [y.2, z.2]⟩
  refine e_Mo_init_22 hl _ _ _ ((0 + 1) + 1) ((0 + 2092) + 1243) ⟨by decide, by decide, ⟨ho, by rw [(hn_o (by rw [n2]; exact Nat.ne_of_lt (@lt_k o 3 (by decide)))).1]; exact kd2⟩, ?_⟩
  rw [show Int32.toNatClampNeg (1243 : Int32) = 1243 from by decide, n2]
  obtain ⟨n3, a3, c3, s3, r3, f3, w3⟩ := mk_row (g := g2) (o := o) (i := 3) (q := (101, 1243)) (c := (fun _ => defaultValue (aty 0))) n2 (Nat.ne_of_lt (@lt_k o 3 (by decide)))
  generalize hset (hnew g2 (101, 1243) (fun _ => defaultValue (aty 0))) o 3 (.ref (o + 1 + 1 + 1)) = g3 at *
  have kd3 : (g3.1 o).1 = 11 := by rw [c3]; exact kd2
  have od3 : ∀ a, a < o → g3.1 a = g.1 a ∧ g3.2.1 a = g.2.1 a := fun a ha => by
    have y := a3 a (Nat.ne_of_lt ha) (Nat.ne_of_lt (Nat.lt_trans ha (@lt_k o 3 (by decide))))
    have z := od2 a ha
    exact ⟨by rw [y.1, z.1], by rw [y.2, z.2]⟩
  refine e_Mo_init_31 hl _ _ _ (((0 + 1) + 1) + 1) (((0 + 2092) + 1243) + 1243) ⟨by decide, by decide, ⟨ho, by rw [(hn_o (by rw [n3]; exact Nat.ne_of_lt (@lt_k o 4 (by decide)))).1]; exact kd3⟩, ?_⟩
  rw [show Int32.toNatClampNeg (394 : Int32) = 394 from by decide, n3]
  obtain ⟨n4, a4, c4, s4, r4, f4, w4⟩ := mk_row (g := g3) (o := o) (i := 4) (q := (101, 394)) (c := (fun _ => defaultValue (aty 0))) n3 (Nat.ne_of_lt (@lt_k o 4 (by decide)))
  generalize hset (hnew g3 (101, 394) (fun _ => defaultValue (aty 0))) o 4 (.ref (o + 1 + 1 + 1 + 1)) = g4 at *
  have kd4 : (g4.1 o).1 = 11 := by rw [c4]; exact kd3
  have od4 : ∀ a, a < o → g4.1 a = g.1 a ∧ g4.2.1 a = g.2.1 a := fun a ha => by
    have y := a4 a (Nat.ne_of_lt ha) (Nat.ne_of_lt (Nat.lt_trans ha (@lt_k o 4 (by decide))))
    have z := od3 a ha
    exact ⟨by rw [y.1, z.1], by rw [y.2, z.2]⟩
  refine e_Mo_init_40 hl _ _ _ ((((0 + 1) + 1) + 1) + 1) ((((0 + 2092) + 1243) + 1243) + 394) ⟨by decide, by decide, ⟨ho, by rw [(hn_o (by rw [n4]; exact Nat.ne_of_lt (@lt_k o 5 (by decide)))).1]; exact kd4⟩, ?_⟩
  rw [show Int32.toNatClampNeg (4728 : Int32) = 4728 from by decide, n4]
  obtain ⟨n5, a5, c5, s5, r5, f5, w5⟩ := mk_row (g := g4) (o := o) (i := 5) (q := (101, 4728)) (c := (fun _ => defaultValue (aty 0))) n4 (Nat.ne_of_lt (@lt_k o 5 (by decide)))
  generalize hset (hnew g4 (101, 4728) (fun _ => defaultValue (aty 0))) o 5 (.ref (o + 1 + 1 + 1 + 1 + 1)) = g5 at *
  have kd5 : (g5.1 o).1 = 11 := by rw [c5]; exact kd4
  have od5 : ∀ a, a < o → g5.1 a = g.1 a ∧ g5.2.1 a = g.2.1 a := fun a ha => by
    have y := a5 a (Nat.ne_of_lt ha) (Nat.ne_of_lt (Nat.lt_trans ha (@lt_k o 5 (by decide))))
    have z := od4 a ha
    exact ⟨by rw [y.1, z.1], by rw [y.2, z.2]⟩
  refine e_Mo_init_49 hl _ _ _ (((((0 + 1) + 1) + 1) + 1) + 1) (((((0 + 2092) + 1243) + 1243) + 394) + 4728) ⟨by decide, by decide, ⟨ho, by rw [(hn_o (by rw [n5]; exact Nat.ne_of_lt (@lt_k o 6 (by decide)))).1]; exact kd5⟩, ?_⟩
  rw [show Int32.toNatClampNeg (400 : Int32) = 400 from by decide, n5]
  obtain ⟨n6, a6, c6, s6, r6, f6, w6⟩ := mk_row (g := g5) (o := o) (i := 8) (q := (103, 400)) (c := (fun _ => defaultValue (aty 2))) n5 (Nat.ne_of_lt (@lt_k o 6 (by decide)))
  generalize hset (hnew g5 (103, 400) (fun _ => defaultValue (aty 2))) o 8 (.ref (o + 1 + 1 + 1 + 1 + 1 + 1)) = g6 at *
  have kd6 : (g6.1 o).1 = 11 := by rw [c6]; exact kd5
  have od6 : ∀ a, a < o → g6.1 a = g.1 a ∧ g6.2.1 a = g.2.1 a := fun a ha => by
    have y := a6 a (Nat.ne_of_lt ha) (Nat.ne_of_lt (Nat.lt_trans ha (@lt_k o 6 (by decide))))
    have z := od5 a ha
    exact ⟨by rw [y.1, z.1], by rw [y.2, z.2]⟩
  refine e_Mo_init_58 hl _ _ _ ((((((0 + 1) + 1) + 1) + 1) + 1) + 1) ((((((0 + 2092) + 1243) + 1243) + 394) + 4728) + 400) ⟨⟨ho, kd6⟩, ?_⟩
  have n7 : (hset g6 o 14 (.int (-1))).2.2 = o + 1 + 1 + 1 + 1 + 1 + 1 + 1 := n6
  have a7 : ∀ a, a ≠ o → (hset g6 o 14 (.int (-1))).1 a = g6.1 a ∧ (hset g6 o 14 (.int (-1))).2.1 a = g6.2.1 a := fun a na => ⟨rfl, funext fun j => hs_ne (fun z => na z.1)⟩
  have c7 : (hset g6 o 14 (.int (-1))).1 o = g6.1 o := rfl
  have f7 : ∀ j, j ≠ 14 → (hset g6 o 14 (.int (-1))).2.1 o j = g6.2.1 o j := fun j hj => hs_ne (fun z => hj z.2)
  have w7 : (hset g6 o 14 (.int (-1))).2.1 o 14 = .int (-1) := hs_eq
  generalize hset g6 o 14 (.int (-1)) = g7 at *
  have kd7 : (g7.1 o).1 = 11 := by rw [c7]; exact kd6
  have od7 : ∀ a, a < o → g7.1 a = g.1 a ∧ g7.2.1 a = g.2.1 a := fun a ha => by
    have y := a7 a (Nat.ne_of_lt ha)
    have z := od6 a ha
    exact ⟨by rw [y.1, z.1], by rw [y.2, z.2]⟩
  refine e_Mo_init_63 hl _ _ _ ((((((0 + 1) + 1) + 1) + 1) + 1) + 1) ((((((0 + 2092) + 1243) + 1243) + 394) + 4728) + 400) ⟨by decide, by decide, ⟨ho, by rw [(hn_o (by rw [n7]; exact Nat.ne_of_lt (@lt_k o 7 (by decide)))).1]; exact kd7⟩, ?_⟩
  rw [show Int32.toNatClampNeg (5 : Int32) = 5 from by decide, n7]
  obtain ⟨n8, a8, c8, s8, r8, f8, w8⟩ := mk_row (g := g7) (o := o) (i := 15) (q := (101, 5)) (c := (fun _ => defaultValue (aty 0))) n7 (Nat.ne_of_lt (@lt_k o 7 (by decide)))
  generalize hset (hnew g7 (101, 5) (fun _ => defaultValue (aty 0))) o 15 (.ref (o + 1 + 1 + 1 + 1 + 1 + 1 + 1)) = g8 at *
  have kd8 : (g8.1 o).1 = 11 := by rw [c8]; exact kd7
  have od8 : ∀ a, a < o → g8.1 a = g.1 a ∧ g8.2.1 a = g.2.1 a := fun a ha => by
    have y := a8 a (Nat.ne_of_lt ha) (Nat.ne_of_lt (Nat.lt_trans ha (@lt_k o 7 (by decide))))
    have z := od7 a ha
    exact ⟨by rw [y.1, z.1], by rw [y.2, z.2]⟩
  refine e_Mo_init_70 hl _ _ _ (((((((0 + 1) + 1) + 1) + 1) + 1) + 1) + 1) (((((((0 + 2092) + 1243) + 1243) + 394) + 4728) + 400) + 5) ⟨by decide, by decide, ⟨ho, by rw [(hn_o (by rw [n8]; exact Nat.ne_of_lt (@lt_k o 8 (by decide)))).1]; exact kd8⟩, ?_⟩
  rw [show Int32.toNatClampNeg (400 : Int32) = 400 from by decide, n8]
  obtain ⟨n9, a9, c9, s9, r9, f9, w9⟩ := mk_row (g := g8) (o := o) (i := 17) (q := (101, 400)) (c := (fun _ => defaultValue (aty 0))) n8 (Nat.ne_of_lt (@lt_k o 8 (by decide)))
  generalize hset (hnew g8 (101, 400) (fun _ => defaultValue (aty 0))) o 17 (.ref (o + 1 + 1 + 1 + 1 + 1 + 1 + 1 + 1)) = g9 at *
  have kd9 : (g9.1 o).1 = 11 := by rw [c9]; exact kd8
  have od9 : ∀ a, a < o → g9.1 a = g.1 a ∧ g9.2.1 a = g.2.1 a := fun a ha => by
    have y := a9 a (Nat.ne_of_lt ha) (Nat.ne_of_lt (Nat.lt_trans ha (@lt_k o 8 (by decide))))
    have z := od8 a ha
    exact ⟨by rw [y.1, z.1], by rw [y.2, z.2]⟩
  refine e_Mo_init_79 hl _ _ _ ((((((((0 + 1) + 1) + 1) + 1) + 1) + 1) + 1) + 1) ((((((((0 + 2092) + 1243) + 1243) + 394) + 4728) + 400) + 5) + 400) ⟨by decide, by decide, ⟨ho, by rw [(hn_o (by rw [n9]; exact Nat.ne_of_lt (@lt_k o 9 (by decide)))).1]; exact kd9⟩, ?_⟩
  rw [show Int32.toNatClampNeg (7 : Int32) = 7 from by decide, n9]
  obtain ⟨n10, a10, c10, s10, r10, f10, w10⟩ := mk_row (g := g9) (o := o) (i := 18) (q := (101, 7)) (c := (fun _ => defaultValue (aty 0))) n9 (Nat.ne_of_lt (@lt_k o 9 (by decide)))
  generalize hset (hnew g9 (101, 7) (fun _ => defaultValue (aty 0))) o 18 (.ref (o + 1 + 1 + 1 + 1 + 1 + 1 + 1 + 1 + 1)) = g10 at *
  have kd10 : (g10.1 o).1 = 11 := by rw [c10]; exact kd9
  have od10 : ∀ a, a < o → g10.1 a = g.1 a ∧ g10.2.1 a = g.2.1 a := fun a ha => by
    have y := a10 a (Nat.ne_of_lt ha) (Nat.ne_of_lt (Nat.lt_trans ha (@lt_k o 9 (by decide))))
    have z := od9 a ha
    exact ⟨by rw [y.1, z.1], by rw [y.2, z.2]⟩
  refine e_Mo_init_87 hl _ _ _ (((((((((0 + 1) + 1) + 1) + 1) + 1) + 1) + 1) + 1) + 1) (((((((((0 + 2092) + 1243) + 1243) + 394) + 4728) + 400) + 5) + 400) + 7) ⟨by decide, by decide, ⟨ho, by rw [(hn_o (by rw [n10]; exact Nat.ne_of_lt (@lt_k o 10 (by decide)))).1]; exact kd10⟩, ?_⟩
  rw [show Int32.toNatClampNeg (7 : Int32) = 7 from by decide, n10]
  obtain ⟨n11, a11, c11, s11, r11, f11, w11⟩ := mk_row (g := g10) (o := o) (i := 19) (q := (101, 7)) (c := (fun _ => defaultValue (aty 0))) n10 (Nat.ne_of_lt (@lt_k o 10 (by decide)))
  generalize hset (hnew g10 (101, 7) (fun _ => defaultValue (aty 0))) o 19 (.ref (o + 1 + 1 + 1 + 1 + 1 + 1 + 1 + 1 + 1 + 1)) = g11 at *
  have kd11 : (g11.1 o).1 = 11 := by rw [c11]; exact kd10
  have od11 : ∀ a, a < o → g11.1 a = g.1 a ∧ g11.2.1 a = g.2.1 a := fun a ha => by
    have y := a11 a (Nat.ne_of_lt ha) (Nat.ne_of_lt (Nat.lt_trans ha (@lt_k o 10 (by decide))))
    have z := od10 a ha
    exact ⟨by rw [y.1, z.1], by rw [y.2, z.2]⟩
  refine e_Mo_init_95 hl _ _ _ ((((((((((0 + 1) + 1) + 1) + 1) + 1) + 1) + 1) + 1) + 1) + 1) ((((((((((0 + 2092) + 1243) + 1243) + 394) + 4728) + 400) + 5) + 400) + 7) + 7) ⟨by decide, by decide, ⟨ho, by rw [(hn_o (by rw [n11]; exact Nat.ne_of_lt (@lt_k o 11 (by decide)))).1]; exact kd11⟩, ?_⟩
  rw [show Int32.toNatClampNeg (7 : Int32) = 7 from by decide, n11]
  obtain ⟨n12, a12, c12, s12, r12, f12, w12⟩ := mk_row (g := g11) (o := o) (i := 20) (q := (101, 7)) (c := (fun _ => defaultValue (aty 0))) n11 (Nat.ne_of_lt (@lt_k o 11 (by decide)))
  generalize hset (hnew g11 (101, 7) (fun _ => defaultValue (aty 0))) o 20 (.ref (o + 1 + 1 + 1 + 1 + 1 + 1 + 1 + 1 + 1 + 1 + 1)) = g12 at *
  have kd12 : (g12.1 o).1 = 11 := by rw [c12]; exact kd11
  have od12 : ∀ a, a < o → g12.1 a = g.1 a ∧ g12.2.1 a = g.2.1 a := fun a ha => by
    have y := a12 a (Nat.ne_of_lt ha) (Nat.ne_of_lt (Nat.lt_trans ha (@lt_k o 11 (by decide))))
    have z := od11 a ha
    exact ⟨by rw [y.1, z.1], by rw [y.2, z.2]⟩
  refine e_Mo_init_103 hl _ _ _ (((((((((((0 + 1) + 1) + 1) + 1) + 1) + 1) + 1) + 1) + 1) + 1) + 1) (((((((((((0 + 2092) + 1243) + 1243) + 394) + 4728) + 400) + 5) + 400) + 7) + 7) + 7) ⟨by decide, by decide, ⟨ho, by rw [(hn_o (by rw [n12]; exact Nat.ne_of_lt (@lt_k o 12 (by decide)))).1]; exact kd12⟩, ?_⟩
  rw [show Int32.toNatClampNeg (8192 : Int32) = 8192 from by decide, n12]
  obtain ⟨n13, a13, c13, s13, r13, f13, w13⟩ := mk_row (g := g12) (o := o) (i := 21) (q := (101, 8192)) (c := (fun _ => defaultValue (aty 0))) n12 (Nat.ne_of_lt (@lt_k o 12 (by decide)))
  generalize hset (hnew g12 (101, 8192) (fun _ => defaultValue (aty 0))) o 21 (.ref (o + 1 + 1 + 1 + 1 + 1 + 1 + 1 + 1 + 1 + 1 + 1 + 1)) = g13 at *
  have kd13 : (g13.1 o).1 = 11 := by rw [c13]; exact kd12
  have od13 : ∀ a, a < o → g13.1 a = g.1 a ∧ g13.2.1 a = g.2.1 a := fun a ha => by
    have y := a13 a (Nat.ne_of_lt ha) (Nat.ne_of_lt (Nat.lt_trans ha (@lt_k o 12 (by decide))))
    have z := od12 a ha
    exact ⟨by rw [y.1, z.1], by rw [y.2, z.2]⟩
  refine e_Mo_init_112 hl _ _ _ ((((((((((((0 + 1) + 1) + 1) + 1) + 1) + 1) + 1) + 1) + 1) + 1) + 1) + 1) ((((((((((((0 + 2092) + 1243) + 1243) + 394) + 4728) + 400) + 5) + 400) + 7) + 7) + 7) + 8192) ⟨by decide, by decide, ⟨ho, by rw [(hn_o (by rw [n13]; exact Nat.ne_of_lt (@lt_k o 13 (by decide)))).1]; exact kd13⟩, ?_⟩
  rw [show Int32.toNatClampNeg (7 : Int32) = 7 from by decide, n13]
  obtain ⟨n14, a14, c14, s14, r14, f14, w14⟩ := mk_row (g := g13) (o := o) (i := 22) (q := (101, 7)) (c := (fun _ => defaultValue (aty 0))) n13 (Nat.ne_of_lt (@lt_k o 13 (by decide)))
  generalize hset (hnew g13 (101, 7) (fun _ => defaultValue (aty 0))) o 22 (.ref (o + 1 + 1 + 1 + 1 + 1 + 1 + 1 + 1 + 1 + 1 + 1 + 1 + 1)) = g14 at *
  have kd14 : (g14.1 o).1 = 11 := by rw [c14]; exact kd13
  have od14 : ∀ a, a < o → g14.1 a = g.1 a ∧ g14.2.1 a = g.2.1 a := fun a ha => by
    have y := a14 a (Nat.ne_of_lt ha) (Nat.ne_of_lt (Nat.lt_trans ha (@lt_k o 13 (by decide))))
    have z := od13 a ha
    exact ⟨by rw [y.1, z.1], by rw [y.2, z.2]⟩
  refine e_Mo_init_120 hl _ _ _ (((((((((((((0 + 1) + 1) + 1) + 1) + 1) + 1) + 1) + 1) + 1) + 1) + 1) + 1) + 1) (((((((((((((0 + 2092) + 1243) + 1243) + 394) + 4728) + 400) + 5) + 400) + 7) + 7) + 7) + 8192) + 7) ⟨by decide, by decide, ⟨ho, by rw [(hn_o (by rw [n14]; exact Nat.ne_of_lt (@lt_k o 14 (by decide)))).1]; exact kd14⟩, ?_⟩
  rw [show Int32.toNatClampNeg (100 : Int32) = 100 from by decide, n14]
  obtain ⟨n15, a15, c15, s15, r15, f15, w15⟩ := mk_row (g := g14) (o := o) (i := 23) (q := (102, 100)) (c := (fun _ => defaultValue (aty 1))) n14 (Nat.ne_of_lt (@lt_k o 14 (by decide)))
  generalize hset (hnew g14 (102, 100) (fun _ => defaultValue (aty 1))) o 23 (.ref (o + 1 + 1 + 1 + 1 + 1 + 1 + 1 + 1 + 1 + 1 + 1 + 1 + 1 + 1)) = g15 at *
  have kd15 : (g15.1 o).1 = 11 := by rw [c15]; exact kd14
  have od15 : ∀ a, a < o → g15.1 a = g.1 a ∧ g15.2.1 a = g.2.1 a := fun a ha => by
    have y := a15 a (Nat.ne_of_lt ha) (Nat.ne_of_lt (Nat.lt_trans ha (@lt_k o 14 (by decide))))
    have z := od14 a ha
    exact ⟨by rw [y.1, z.1], by rw [y.2, z.2]⟩
  refine e_Mo_init_128 hl _ _ _ ((((((((((((((0 + 1) + 1) + 1) + 1) + 1) + 1) + 1) + 1) + 1) + 1) + 1) + 1) + 1) + 1) ((((((((((((((0 + 2092) + 1243) + 1243) + 394) + 4728) + 400) + 5) + 400) + 7) + 7) + 7) + 8192) + 7) + 100) ⟨by decide, by decide, ⟨ho, by rw [(hn_o (by rw [n15]; exact Nat.ne_of_lt (@lt_k o 15 (by decide)))).1]; exact kd15⟩, ?_⟩
  rw [show Int32.toNatClampNeg (128 : Int32) = 128 from by decide, n15]
  obtain ⟨n16, a16, c16, s16, r16, f16, w16⟩ := mk_row (g := g15) (o := o) (i := 24) (q := (101, 128)) (c := (fun _ => defaultValue (aty 0))) n15 (Nat.ne_of_lt (@lt_k o 15 (by decide)))
  generalize hset (hnew g15 (101, 128) (fun _ => defaultValue (aty 0))) o 24 (.ref (o + 1 + 1 + 1 + 1 + 1 + 1 + 1 + 1 + 1 + 1 + 1 + 1 + 1 + 1 + 1)) = g16 at *
  have kd16 : (g16.1 o).1 = 11 := by rw [c16]; exact kd15
  have od16 : ∀ a, a < o → g16.1 a = g.1 a ∧ g16.2.1 a = g.2.1 a := fun a ha => by
    have y := a16 a (Nat.ne_of_lt ha) (Nat.ne_of_lt (Nat.lt_trans ha (@lt_k o 15 (by decide))))
    have z := od15 a ha
    exact ⟨by rw [y.1, z.1], by rw [y.2, z.2]⟩
  have S : ModSh g16 o := ⟨⟨(by rw [c16, c15, c14, c13, c12, c11, c10, c9, c8, c7, c6, c5, c4, c3, c2, c1]; exact k0), (by rw [f16 1 (by decide), f15 1 (by decide), f14 1 (by decide), f13 1 (by decide), f12 1 (by decide), f11 1 (by decide), f10 1 (by decide), f9 1 (by decide), f8 1 (by decide), f7 1 (by decide), f6 1 (by decide), f5 1 (by decide), f4 1 (by decide), f3 1 (by decide), f2 1 (by decide)]; exact w1), (by rw [f16 2 (by decide), f15 2 (by decide), f14 2 (by decide), f13 2 (by decide), f12 2 (by decide), f11 2 (by decide), f10 2 (by decide), f9 2 (by decide), f8 2 (by decide), f7 2 (by decide), f6 2 (by decide), f5 2 (by decide), f4 2 (by decide), f3 2 (by decide)]; exact w2), (by rw [f16 3 (by decide), f15 3 (by decide), f14 3 (by decide), f13 3 (by decide), f12 3 (by decide), f11 3 (by decide), f10 3 (by decide), f9 3 (by decide), f8 3 (by decide), f7 3 (by decide), f6 3 (by decide), f5 3 (by decide), f4 3 (by decide)]; exact w3), (by rw [f16 4 (by decide), f15 4 (by decide), f14 4 (by decide), f13 4 (by decide), f12 4 (by decide), f11 4 (by decide), f10 4 (by decide), f9 4 (by decide), f8 4 (by decide), f7 4 (by decide), f6 4 (by decide), f5 4 (by decide)]; exact w4), (by rw [f16 5 (by decide), f15 5 (by decide), f14 5 (by decide), f13 5 (by decide), f12 5 (by decide), f11 5 (by decide), f10 5 (by decide), f9 5 (by decide), f8 5 (by decide), f7 5 (by decide), f6 5 (by decide)]; exact w5), (by rw [f16 8 (by decide), f15 8 (by decide), f14 8 (by decide), f13 8 (by decide), f12 8 (by decide), f11 8 (by decide), f10 8 (by decide), f9 8 (by decide), f8 8 (by decide), f7 8 (by decide)]; exact w6), (by rw [f16 15 (by decide), f15 15 (by decide), f14 15 (by decide), f13 15 (by decide), f12 15 (by decide), f11 15 (by decide), f10 15 (by decide), f9 15 (by decide)]; exact w8), (by rw [f16 17 (by decide), f15 17 (by decide), f14 17 (by decide), f13 17 (by decide), f12 17 (by decide), f11 17 (by decide), f10 17 (by decide)]; exact w9), (by rw [f16 18 (by decide), f15 18 (by decide), f14 18 (by decide), f13 18 (by decide), f12 18 (by decide), f11 18 (by decide)]; exact w10), (by rw [f16 19 (by decide), f15 19 (by decide), f14 19 (by decide), f13 19 (by decide), f12 19 (by decide)]; exact w11), (by rw [f16 20 (by decide), f15 20 (by decide), f14 20 (by decide), f13 20 (by decide)]; exact w12), (by rw [f16 21 (by decide), f15 21 (by decide), f14 21 (by decide)]; exact w13), (by rw [f16 22 (by decide), f15 22 (by decide)]; exact w14), (by rw [f16 23 (by decide)]; exact w15), (by exact w16)⟩, (by rw [(a16 (o + 1) (@ne_k0 o 1 (by decide)) (@ne_kk o 1 15 (by decide))).1, (a15 (o + 1) (@ne_k0 o 1 (by decide)) (@ne_kk o 1 14 (by decide))).1, (a14 (o + 1) (@ne_k0 o 1 (by decide)) (@ne_kk o 1 13 (by decide))).1, (a13 (o + 1) (@ne_k0 o 1 (by decide)) (@ne_kk o 1 12 (by decide))).1, (a12 (o + 1) (@ne_k0 o 1 (by decide)) (@ne_kk o 1 11 (by decide))).1, (a11 (o + 1) (@ne_k0 o 1 (by decide)) (@ne_kk o 1 10 (by decide))).1, (a10 (o + 1) (@ne_k0 o 1 (by decide)) (@ne_kk o 1 9 (by decide))).1, (a9 (o + 1) (@ne_k0 o 1 (by decide)) (@ne_kk o 1 8 (by decide))).1, (a8 (o + 1) (@ne_k0 o 1 (by decide)) (@ne_kk o 1 7 (by decide))).1, (a7 (o + 1) (@ne_k0 o 1 (by decide))).1, (a6 (o + 1) (@ne_k0 o 1 (by decide)) (@ne_kk o 1 6 (by decide))).1, (a5 (o + 1) (@ne_k0 o 1 (by decide)) (@ne_kk o 1 5 (by decide))).1, (a4 (o + 1) (@ne_k0 o 1 (by decide)) (@ne_kk o 1 4 (by decide))).1, (a3 (o + 1) (@ne_k0 o 1 (by decide)) (@ne_kk o 1 3 (by decide))).1, (a2 (o + 1) (@ne_k0 o 1 (by decide)) (@ne_kk o 1 2 (by decide))).1]; exact s1), (by rw [(a16 (o + 2) (@ne_k0 o 2 (by decide)) (@ne_kk o 2 15 (by decide))).1, (a15 (o + 2) (@ne_k0 o 2 (by decide)) (@ne_kk o 2 14 (by decide))).1, (a14 (o + 2) (@ne_k0 o 2 (by decide)) (@ne_kk o 2 13 (by decide))).1, (a13 (o + 2) (@ne_k0 o 2 (by decide)) (@ne_kk o 2 12 (by decide))).1, (a12 (o + 2) (@ne_k0 o 2 (by decide)) (@ne_kk o 2 11 (by decide))).1, (a11 (o + 2) (@ne_k0 o 2 (by decide)) (@ne_kk o 2 10 (by decide))).1, (a10 (o + 2) (@ne_k0 o 2 (by decide)) (@ne_kk o 2 9 (by decide))).1, (a9 (o + 2) (@ne_k0 o 2 (by decide)) (@ne_kk o 2 8 (by decide))).1, (a8 (o + 2) (@ne_k0 o 2 (by decide)) (@ne_kk o 2 7 (by decide))).1, (a7 (o + 2) (@ne_k0 o 2 (by decide))).1, (a6 (o + 2) (@ne_k0 o 2 (by decide)) (@ne_kk o 2 6 (by decide))).1, (a5 (o + 2) (@ne_k0 o 2 (by decide)) (@ne_kk o 2 5 (by decide))).1, (a4 (o + 2) (@ne_k0 o 2 (by decide)) (@ne_kk o 2 4 (by decide))).1, (a3 (o + 2) (@ne_k0 o 2 (by decide)) (@ne_kk o 2 3 (by decide))).1]; exact s2), (by rw [(a16 (o + 3) (@ne_k0 o 3 (by decide)) (@ne_kk o 3 15 (by decide))).1, (a15 (o + 3) (@ne_k0 o 3 (by decide)) (@ne_kk o 3 14 (by decide))).1, (a14 (o + 3) (@ne_k0 o 3 (by decide)) (@ne_kk o 3 13 (by decide))).1, (a13 (o + 3) (@ne_k0 o 3 (by decide)) (@ne_kk o 3 12 (by decide))).1, (a12 (o + 3) (@ne_k0 o 3 (by decide)) (@ne_kk o 3 11 (by decide))).1, (a11 (o + 3) (@ne_k0 o 3 (by decide)) (@ne_kk o 3 10 (by decide))).1, (a10 (o + 3) (@ne_k0 o 3 (by decide)) (@ne_kk o 3 9 (by decide))).1, (a9 (o + 3) (@ne_k0 o 3 (by decide)) (@ne_kk o 3 8 (by decide))).1, (a8 (o + 3) (@ne_k0 o 3 (by decide)) (@ne_kk o 3 7 (by decide))).1, (a7 (o + 3) (@ne_k0 o 3 (by decide))).1, (a6 (o + 3) (@ne_k0 o 3 (by decide)) (@ne_kk o 3 6 (by decide))).1, (a5 (o + 3) (@ne_k0 o 3 (by decide)) (@ne_kk o 3 5 (by decide))).1, (a4 (o + 3) (@ne_k0 o 3 (by decide)) (@ne_kk o 3 4 (by decide))).1]; exact s3), (by rw [(a16 (o + 4) (@ne_k0 o 4 (by decide)) (@ne_kk o 4 15 (by decide))).1, (a15 (o + 4) (@ne_k0 o 4 (by decide)) (@ne_kk o 4 14 (by decide))).1, (a14 (o + 4) (@ne_k0 o 4 (by decide)) (@ne_kk o 4 13 (by decide))).1, (a13 (o + 4) (@ne_k0 o 4 (by decide)) (@ne_kk o 4 12 (by decide))).1, (a12 (o + 4) (@ne_k0 o 4 (by decide)) (@ne_kk o 4 11 (by decide))).1, (a11 (o + 4) (@ne_k0 o 4 (by decide)) (@ne_kk o 4 10 (by decide))).1, (a10 (o + 4) (@ne_k0 o 4 (by decide)) (@ne_kk o 4 9 (by decide))).1, (a9 (o + 4) (@ne_k0 o 4 (by decide)) (@ne_kk o 4 8 (by decide))).1, (a8 (o + 4) (@ne_k0 o 4 (by decide)) (@ne_kk o 4 7 (by decide))).1, (a7 (o + 4) (@ne_k0 o 4 (by decide))).1, (a6 (o + 4) (@ne_k0 o 4 (by decide)) (@ne_kk o 4 6 (by decide))).1, (a5 (o + 4) (@ne_k0 o 4 (by decide)) (@ne_kk o 4 5 (by decide))).1]; exact s4), (by rw [(a16 (o + 5) (@ne_k0 o 5 (by decide)) (@ne_kk o 5 15 (by decide))).1, (a15 (o + 5) (@ne_k0 o 5 (by decide)) (@ne_kk o 5 14 (by decide))).1, (a14 (o + 5) (@ne_k0 o 5 (by decide)) (@ne_kk o 5 13 (by decide))).1, (a13 (o + 5) (@ne_k0 o 5 (by decide)) (@ne_kk o 5 12 (by decide))).1, (a12 (o + 5) (@ne_k0 o 5 (by decide)) (@ne_kk o 5 11 (by decide))).1, (a11 (o + 5) (@ne_k0 o 5 (by decide)) (@ne_kk o 5 10 (by decide))).1, (a10 (o + 5) (@ne_k0 o 5 (by decide)) (@ne_kk o 5 9 (by decide))).1, (a9 (o + 5) (@ne_k0 o 5 (by decide)) (@ne_kk o 5 8 (by decide))).1, (a8 (o + 5) (@ne_k0 o 5 (by decide)) (@ne_kk o 5 7 (by decide))).1, (a7 (o + 5) (@ne_k0 o 5 (by decide))).1, (a6 (o + 5) (@ne_k0 o 5 (by decide)) (@ne_kk o 5 6 (by decide))).1]; exact s5), (by rw [(a16 (o + 6) (@ne_k0 o 6 (by decide)) (@ne_kk o 6 15 (by decide))).1, (a15 (o + 6) (@ne_k0 o 6 (by decide)) (@ne_kk o 6 14 (by decide))).1, (a14 (o + 6) (@ne_k0 o 6 (by decide)) (@ne_kk o 6 13 (by decide))).1, (a13 (o + 6) (@ne_k0 o 6 (by decide)) (@ne_kk o 6 12 (by decide))).1, (a12 (o + 6) (@ne_k0 o 6 (by decide)) (@ne_kk o 6 11 (by decide))).1, (a11 (o + 6) (@ne_k0 o 6 (by decide)) (@ne_kk o 6 10 (by decide))).1, (a10 (o + 6) (@ne_k0 o 6 (by decide)) (@ne_kk o 6 9 (by decide))).1, (a9 (o + 6) (@ne_k0 o 6 (by decide)) (@ne_kk o 6 8 (by decide))).1, (a8 (o + 6) (@ne_k0 o 6 (by decide)) (@ne_kk o 6 7 (by decide))).1, (a7 (o + 6) (@ne_k0 o 6 (by decide))).1]; exact s6), (by rw [(a16 (o + 7) (@ne_k0 o 7 (by decide)) (@ne_kk o 7 15 (by decide))).1, (a15 (o + 7) (@ne_k0 o 7 (by decide)) (@ne_kk o 7 14 (by decide))).1, (a14 (o + 7) (@ne_k0 o 7 (by decide)) (@ne_kk o 7 13 (by decide))).1, (a13 (o + 7) (@ne_k0 o 7 (by decide)) (@ne_kk o 7 12 (by decide))).1, (a12 (o + 7) (@ne_k0 o 7 (by decide)) (@ne_kk o 7 11 (by decide))).1, (a11 (o + 7) (@ne_k0 o 7 (by decide)) (@ne_kk o 7 10 (by decide))).1, (a10 (o + 7) (@ne_k0 o 7 (by decide)) (@ne_kk o 7 9 (by decide))).1, (a9 (o + 7) (@ne_k0 o 7 (by decide)) (@ne_kk o 7 8 (by decide))).1]; exact s8), (by rw [(a16 (o + 8) (@ne_k0 o 8 (by decide)) (@ne_kk o 8 15 (by decide))).1, (a15 (o + 8) (@ne_k0 o 8 (by decide)) (@ne_kk o 8 14 (by decide))).1, (a14 (o + 8) (@ne_k0 o 8 (by decide)) (@ne_kk o 8 13 (by decide))).1, (a13 (o + 8) (@ne_k0 o 8 (by decide)) (@ne_kk o 8 12 (by decide))).1, (a12 (o + 8) (@ne_k0 o 8 (by decide)) (@ne_kk o 8 11 (by decide))).1, (a11 (o + 8) (@ne_k0 o 8 (by decide)) (@ne_kk o 8 10 (by decide))).1, (a10 (o + 8) (@ne_k0 o 8 (by decide)) (@ne_kk o 8 9 (by decide))).1]; exact s9), (by rw [(a16 (o + 9) (@ne_k0 o 9 (by decide)) (@ne_kk o 9 15 (by decide))).1, (a15 (o + 9) (@ne_k0 o 9 (by decide)) (@ne_kk o 9 14 (by decide))).1, (a14 (o + 9) (@ne_k0 o 9 (by decide)) (@ne_kk o 9 13 (by decide))).1, (a13 (o + 9) (@ne_k0 o 9 (by decide)) (@ne_kk o 9 12 (by decide))).1, (a12 (o + 9) (@ne_k0 o 9 (by decide)) (@ne_kk o 9 11 (by decide))).1, (a11 (o + 9) (@ne_k0 o 9 (by decide)) (@ne_kk o 9 10 (by decide))).1]; exact s10), (by rw [(a16 (o + 10) (@ne_k0 o 10 (by decide)) (@ne_kk o 10 15 (by decide))).1, (a15 (o + 10) (@ne_k0 o 10 (by decide)) (@ne_kk o 10 14 (by decide))).1, (a14 (o + 10) (@ne_k0 o 10 (by decide)) (@ne_kk o 10 13 (by decide))).1, (a13 (o + 10) (@ne_k0 o 10 (by decide)) (@ne_kk o 10 12 (by decide))).1, (a12 (o + 10) (@ne_k0 o 10 (by decide)) (@ne_kk o 10 11 (by decide))).1]; exact s11), (by rw [(a16 (o + 11) (@ne_k0 o 11 (by decide)) (@ne_kk o 11 15 (by decide))).1, (a15 (o + 11) (@ne_k0 o 11 (by decide)) (@ne_kk o 11 14 (by decide))).1, (a14 (o + 11) (@ne_k0 o 11 (by decide)) (@ne_kk o 11 13 (by decide))).1, (a13 (o + 11) (@ne_k0 o 11 (by decide)) (@ne_kk o 11 12 (by decide))).1]; exact s12), (by rw [(a16 (o + 12) (@ne_k0 o 12 (by decide)) (@ne_kk o 12 15 (by decide))).1, (a15 (o + 12) (@ne_k0 o 12 (by decide)) (@ne_kk o 12 14 (by decide))).1, (a14 (o + 12) (@ne_k0 o 12 (by decide)) (@ne_kk o 12 13 (by decide))).1]; exact s13), (by rw [(a16 (o + 13) (@ne_k0 o 13 (by decide)) (@ne_kk o 13 15 (by decide))).1, (a15 (o + 13) (@ne_k0 o 13 (by decide)) (@ne_kk o 13 14 (by decide))).1]; exact s14), (by rw [(a16 (o + 14) (@ne_k0 o 14 (by decide)) (@ne_kk o 14 15 (by decide))).1]; exact s15), (by exact s16)⟩
  have z1 : g16.2.1 (o + 1) = fun _ => .int 0 := (by rw [(a16 (o + 1) (@ne_k0 o 1 (by decide)) (@ne_kk o 1 15 (by decide))).2, (a15 (o + 1) (@ne_k0 o 1 (by decide)) (@ne_kk o 1 14 (by decide))).2, (a14 (o + 1) (@ne_k0 o 1 (by decide)) (@ne_kk o 1 13 (by decide))).2, (a13 (o + 1) (@ne_k0 o 1 (by decide)) (@ne_kk o 1 12 (by decide))).2, (a12 (o + 1) (@ne_k0 o 1 (by decide)) (@ne_kk o 1 11 (by decide))).2, (a11 (o + 1) (@ne_k0 o 1 (by decide)) (@ne_kk o 1 10 (by decide))).2, (a10 (o + 1) (@ne_k0 o 1 (by decide)) (@ne_kk o 1 9 (by decide))).2, (a9 (o + 1) (@ne_k0 o 1 (by decide)) (@ne_kk o 1 8 (by decide))).2, (a8 (o + 1) (@ne_k0 o 1 (by decide)) (@ne_kk o 1 7 (by decide))).2, (a7 (o + 1) (@ne_k0 o 1 (by decide))).2, (a6 (o + 1) (@ne_k0 o 1 (by decide)) (@ne_kk o 1 6 (by decide))).2, (a5 (o + 1) (@ne_k0 o 1 (by decide)) (@ne_kk o 1 5 (by decide))).2, (a4 (o + 1) (@ne_k0 o 1 (by decide)) (@ne_kk o 1 4 (by decide))).2, (a3 (o + 1) (@ne_k0 o 1 (by decide)) (@ne_kk o 1 3 (by decide))).2, (a2 (o + 1) (@ne_k0 o 1 (by decide)) (@ne_kk o 1 2 (by decide))).2]; exact r1)
  have z5 : g16.2.1 (o + 5) = fun _ => .int 0 := (by rw [(a16 (o + 5) (@ne_k0 o 5 (by decide)) (@ne_kk o 5 15 (by decide))).2, (a15 (o + 5) (@ne_k0 o 5 (by decide)) (@ne_kk o 5 14 (by decide))).2, (a14 (o + 5) (@ne_k0 o 5 (by decide)) (@ne_kk o 5 13 (by decide))).2, (a13 (o + 5) (@ne_k0 o 5 (by decide)) (@ne_kk o 5 12 (by decide))).2, (a12 (o + 5) (@ne_k0 o 5 (by decide)) (@ne_kk o 5 11 (by decide))).2, (a11 (o + 5) (@ne_k0 o 5 (by decide)) (@ne_kk o 5 10 (by decide))).2, (a10 (o + 5) (@ne_k0 o 5 (by decide)) (@ne_kk o 5 9 (by decide))).2, (a9 (o + 5) (@ne_k0 o 5 (by decide)) (@ne_kk o 5 8 (by decide))).2, (a8 (o + 5) (@ne_k0 o 5 (by decide)) (@ne_kk o 5 7 (by decide))).2, (a7 (o + 5) (@ne_k0 o 5 (by decide))).2, (a6 (o + 5) (@ne_k0 o 5 (by decide)) (@ne_kk o 5 6 (by decide))).2]; exact r5)
  have z6 : g16.2.1 (o + 6) = fun _ => .int 0 := (by rw [(a16 (o + 6) (@ne_k0 o 6 (by decide)) (@ne_kk o 6 15 (by decide))).2, (a15 (o + 6) (@ne_k0 o 6 (by decide)) (@ne_kk o 6 14 (by decide))).2, (a14 (o + 6) (@ne_k0 o 6 (by decide)) (@ne_kk o 6 13 (by decide))).2, (a13 (o + 6) (@ne_k0 o 6 (by decide)) (@ne_kk o 6 12 (by decide))).2, (a12 (o + 6) (@ne_k0 o 6 (by decide)) (@ne_kk o 6 11 (by decide))).2, (a11 (o + 6) (@ne_k0 o 6 (by decide)) (@ne_kk o 6 10 (by decide))).2, (a10 (o + 6) (@ne_k0 o 6 (by decide)) (@ne_kk o 6 9 (by decide))).2, (a9 (o + 6) (@ne_k0 o 6 (by decide)) (@ne_kk o 6 8 (by decide))).2, (a8 (o + 6) (@ne_k0 o 6 (by decide)) (@ne_kk o 6 7 (by decide))).2, (a7 (o + 6) (@ne_k0 o 6 (by decide))).2]; exact r6)
  have un : ∀ j, j = 0 ∨ j = 6 ∨ j = 7 ∨ j = 9 ∨ j = 10 ∨ j = 11 ∨ j = 12 ∨ j = 13 ∨ j = 16 → g16.2.1 o j = g.2.1 o j := fun j hj => by rcases hj with rfl | rfl | rfl | rfl | rfl | rfl | rfl | rfl | rfl <;> rw [f16 _ (by decide), f15 _ (by decide), f14 _ (by decide), f13 _ (by decide), f12 _ (by decide), f11 _ (by decide), f10 _ (by decide), f9 _ (by decide), f8 _ (by decide), f7 _ (by decide), f6 _ (by decide), f5 _ (by decide), f4 _ (by decide), f3 _ (by decide), f2 _ (by decide), f1 _ (by decide)]
  have v14 : g16.2.1 o 14 = .int (-1) := (by rw [f16 14 (by decide), f15 14 (by decide), f14 14 (by decide), f13 14 (by decide), f12 14 (by decide), f11 14 (by decide), f10 14 (by decide), f9 14 (by decide), f8 14 (by decide)]; exact w7)
  exact mo_end hl ho kd16 S z1 z5 z6 un v14 od16 n16
end CTR
