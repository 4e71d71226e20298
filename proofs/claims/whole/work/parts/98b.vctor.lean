/-- the valley before any text -/
def A0 : Vs := fun k j => if k = 0 ∧ j = 4 then 2 else if k = 0 ∧ j = 5 then 1 else 0
def VPre (h : Hp) (v : Nat) : Prop :=
  (h.1 v = (8, 19) ∧ h.2.1 v 1 = .ref (v + 1) ∧ h.2.1 v 2 = .ref (v + 2) ∧ h.2.1 v 3 = .ref (v + 3) ∧ h.2.1 v 7 = .ref (v + 4) ∧ h.2.1 v 8 = .ref (v + 5) ∧ h.2.1 v 9 = .ref (v + 6) ∧ h.2.1 v 10 = .ref (v + 7) ∧ h.2.1 v 11 = .ref (v + 8)) ∧
  (h.1 (v + 1) = (101, 7) ∧ h.1 (v + 2) = (101, 7) ∧ h.1 (v + 3) = (101, 7) ∧ h.1 (v + 4) = (101, 10) ∧ h.1 (v + 5) = (101, 10) ∧ h.1 (v + 6) = (101, 10) ∧ h.1 (v + 7) = (101, 10) ∧ h.1 (v + 8) = (101, 10)) ∧
  (h.2.1 v 0 = .int 0 ∧ h.2.1 v 4 = .int 0 ∧ h.2.1 v 5 = .int 0 ∧ h.2.1 v 6 = .int 0 ∧ h.2.1 v 12 = .int 0 ∧ h.2.1 v 13 = .int 0 ∧ h.2.1 v 14 = .int 2 ∧ h.2.1 v 15 = .int 1 ∧ h.2.1 v 16 = .int 0) ∧
  (h.2.1 (v + 1) = (fun _ => .int 0)) ∧ (h.2.1 (v + 2) = (fun _ => .int 0)) ∧ (h.2.1 (v + 3) = (fun _ => .int 0)) ∧ (h.2.1 (v + 4) = (fun _ => .int 0)) ∧ (h.2.1 (v + 5) = (fun _ => .int 0)) ∧ (h.2.1 (v + 6) = (fun _ => .int 0)) ∧ (h.2.1 (v + 7) = (fun _ => .int 0)) ∧ (h.2.1 (v + 8) = (fun _ => .int 0))
theorem nlt0 : ∀ a, a < 60 → ¬ nI a < (0 : Int32) := by decide
section CTV
variable {G : Gx} {g gz : Hp} {o l1 : Nat}
theorem i_Vr (hl : G.1.stackTraces = false) (ho : G.n0 ≤ o) (hn : g.2.2 = o + 1) (k0 : g.1 o = (9, 1)) : EvM G m_Vr_init [.ref o, .ref l1] g (fun r h' => r = .inl none ∧ NewO g h' o 1 ∧ (h'.1 o = (9, 1) ∧ h'.2.1 o 0 = .ref l1)) :=
  en_Vr_init g _ _ _ (e_Vr_init_0 hl g _ _ _ (e_Vr_init_4 hl g _ _ _ ⟨⟨ho, by rw [k0]⟩, rfl, ⟨fun a ha => ⟨rfl, funext fun j => hs_ne (fun z => absurd z.1 (Nat.ne_of_lt ha))⟩, hn⟩, k0, hs_eq⟩))
theorem VPre.vly {h' : Hp} (S : VPre h' o) (L : h'.2.1 o 17 = .ref l1) (L8 : h'.2.1 o 18 = .ref (o + 9)) (s9 : h'.1 (o + 9) = (3, 3)) (s10 : h'.1 (o + 10) = (101, 300)) (f0 : h'.2.1 (o + 9) 0 = .ref (o + 10)) (f1 : h'.2.1 (o + 9) 1 = .int 0) (f2 : h'.2.1 (o + 9) 2 = .int 0) (z : h'.2.1 (o + 10) = fun _ => .int 0) : VlyAt h' o A0 l1 := by
  obtain ⟨⟨a0, a1, a2, a3, a4, a5, a6, a7, a8⟩, ⟨b1, b2, b3, b4, b5, b6, b7, b8⟩, ⟨c0, c1, c2, c3, c4, c5, c6, c7, c8⟩, d1, d2, d3, d4, d5, d6, d7, d8⟩ := S
  refine ⟨⟨⟨a0, a1, a2, a3, a4, a5, a6, a7, a8, L, L8⟩, b1, b2, b3, b4, b5, b6, b7, b8, s9, s10⟩, fun k j hd => ?_, ⟨by rw [c1]; rfl, by rw [c2]; rfl⟩, ⟨s9, s10, f0⟩, f2, ⟨0, by decide, rfl⟩, fun j _ => ⟨0, by rw [show o + 9 + 1 = o + 10 by omega, z]⟩, 0, by decide, f1, fun ago w hlt h6 _ => absurd hlt (nlt0 ago h6)⟩
  rcases hd with ⟨rfl, hj⟩ | ⟨h1, h2, hj⟩ | ⟨h1, h2, hj⟩
  · obtain rfl | rfl | rfl | rfl | rfl | rfl | rfl : j = 0 ∨ j = 1 ∨ j = 2 ∨ j = 3 ∨ j = 4 ∨ j = 5 ∨ j = 6 := by omega
    · exact c0
    · exact c3
    · exact c4
    · exact c5
    · exact c6
    · exact c7
    · exact c8
  · obtain rfl | rfl | rfl : k = 1 ∨ k = 2 ∨ k = 3 := by omega
    · exact congrFun d1 j
    · exact congrFun d2 j
    · exact congrFun d3 j
  · obtain rfl | rfl | rfl | rfl | rfl : k = 6 ∨ k = 7 ∨ k = 8 ∨ k = 9 ∨ k = 10 := by omega
    · exact congrFun d4 j
    · exact congrFun d5 j
    · exact congrFun d6 j
    · exact congrFun d7 j
    · exact congrFun d8 j
theorem VPre.keep {h' : Hp} (S : VPre gz o) (e1 : ∀ a, o ≤ a → a ≤ o + 8 → h'.1 a = gz.1 a) (e2 : ∀ j, j ≤ 16 → h'.2.1 o j = gz.2.1 o j) (e3 : ∀ a, o < a → a ≤ o + 8 → h'.2.1 a = gz.2.1 a) : VPre h' o := by
  unfold VPre at *
  rw [e2 0 (by omega), e2 1 (by omega), e2 2 (by omega), e2 3 (by omega), e2 4 (by omega), e2 5 (by omega), e2 6 (by omega), e2 7 (by omega), e2 8 (by omega), e2 9 (by omega), e2 10 (by omega), e2 11 (by omega), e2 12 (by omega), e2 13 (by omega), e2 14 (by omega), e2 15 (by omega), e2 16 (by omega), e1 o (by omega) (by omega), e1 (o + 1) (by omega) (by omega), e1 (o + 2) (by omega) (by omega), e1 (o + 3) (by omega) (by omega), e1 (o + 4) (by omega) (by omega), e1 (o + 5) (by omega) (by omega), e1 (o + 6) (by omega) (by omega), e1 (o + 7) (by omega) (by omega), e1 (o + 8) (by omega) (by omega), e3 (o + 1) (by omega) (by omega), e3 (o + 2) (by omega) (by omega), e3 (o + 3) (by omega) (by omega), e3 (o + 4) (by omega) (by omega), e3 (o + 5) (by omega) (by omega), e3 (o + 6) (by omega) (by omega), e3 (o + 7) (by omega) (by omega), e3 (o + 8) (by omega) (by omega)]
  exact S
theorem va_end (hl : G.1.stackTraces = false) (ho : G.n0 ≤ o) (S : VPre gz o) (od : ∀ a, a < o → gz.1 a = g.1 a ∧ gz.2.1 a = g.2.1 a) (nn : gz.2.2 = o + 9) : Ev G m_Va_init 113 [.ref o, .ref l1] [] gz 8 71 (fun r h' => r = .inl none ∧ NewO g h' o 11 ∧ VlyAt h' o A0 l1) := by
  have kd : (gz.1 o).1 = 8 := by rw [S.1.1]
  refine e_Va_init_113 hl _ _ _ _ _ _ ⟨by decide, _, i_Lo (o := gz.2.2) hl (by omega) rfl hn_1, by decide, fun r h1 q => ?_⟩
  · obtain ⟨q0, ⟨qo, qn⟩, s9, s10, f0, f1, f2, z⟩ := q
    rw [nn] at qo qn s9 s10 f0 f1 f2 z
    subst q0
    have lo : ∀ a, a < o + 9 → h1.1 a = gz.1 a ∧ h1.2.1 a = gz.2.1 a := fun a ha => by
      have y := hn_o (h := gz) (q := (3, 3)) (f := dflt 2) (a := a) (by rw [nn]; omega)
      rw [← y.1, ← y.2]; exact qo a ha
    have k1 : (h1.1 o).1 = 8 := by rw [(lo o (by omega)).1]; exact kd
    refine ⟨rfl, ⟨ho, k1⟩, ?_⟩
    refine e_Va_init_124 hl _ _ _ _ _ _ ⟨⟨ho, k1⟩, ?_⟩
    rw [nn]
    have E : ∀ a, a ≠ o → (hset (hset h1 o 18 (.ref (o + 9))) o 17 (.ref l1)).2.1 a = h1.2.1 a := fun a ha => funext fun j => by rw [hs_ne (fun z => ha z.1), hs_ne (fun z => ha z.1)]
    have W : (hset (hset h1 o 18 (.ref (o + 9))) o 17 (.ref l1)).2.1 o 17 = .ref l1 := hs_eq
    have W2 : (hset (hset h1 o 18 (.ref (o + 9))) o 17 (.ref l1)).2.1 o 18 = .ref (o + 9) := by rw [hs_ne (by omega), hs_eq]
    have F : ∀ j, j ≤ 16 → (hset (hset h1 o 18 (.ref (o + 9))) o 17 (.ref l1)).2.1 o j = h1.2.1 o j := fun j hj => by rw [hs_ne (by omega), hs_ne (by omega)]
    have K : (hset (hset h1 o 18 (.ref (o + 9))) o 17 (.ref l1)).1 = h1.1 := rfl
    have N : (hset (hset h1 o 18 (.ref (o + 9))) o 17 (.ref l1)).2.2 = o + 11 := qn
    generalize hset (hset h1 o 18 (.ref (o + 9))) o 17 (.ref l1) = q at *
    refine ⟨rfl, ⟨fun a ha => ⟨by rw [K, (lo a (by omega)).1, (od a ha).1], by rw [E a (by omega), (lo a (by omega)).2, (od a ha).2]⟩, N⟩, ?_⟩
    refine VPre.vly (S.keep (fun a _ h2 => by rw [K, (lo a (by omega)).1]) (fun j hj => by rw [F j hj, (lo o (by omega)).2]) (fun a h1 h2 => by rw [E a (by omega), (lo a (by omega)).2])) W W2 (by rw [K]; exact s9) (by rw [K]; exact s10) (by rw [E _ (by omega)]; exact f0) (by rw [E _ (by omega)]; exact f1) (by rw [E _ (by omega)]; exact f2) (by rw [E _ (by omega)]; exact z)
end CTV
section CTR
variable {G : Gx} {g : Hp} {o : Nat}
set_option maxHeartbeats 8000000 in
theorem i_Va (hl : G.1.stackTraces = false) (ho : G.n0 ≤ o) {l1 : Nat} (hn : g.2.2 = o + 1) (k0 : g.1 o = (8, 19)) : EvM G m_Va_init [.ref o, .ref l1] g (fun r h' => r = .inl none ∧ NewO g h' o 11 ∧ VlyAt h' o A0 l1) := by
  have kd : (g.1 o).1 = 8 := by rw [k0]
  refine en_Va_init g _ _ _ (e_Va_init_0 hl g _ _ _ ?_)
  refine e_Va_init_4 hl _ _ _ _ 0 0 ⟨⟨ho, kd⟩, ?_⟩
  have n1 : (hset g o 0 (.int (0))).2.2 = o + 1 := hn
  have a1 : ∀ a, a ≠ o → (hset g o 0 (.int (0))).1 a = g.1 a ∧ (hset g o 0 (.int (0))).2.1 a = g.2.1 a := fun a na => ⟨rfl, funext fun j => hs_ne (fun z => na z.1)⟩
  have c1 : (hset g o 0 (.int (0))).1 o = g.1 o := rfl
  have f1 : ∀ j, j ≠ 0 → (hset g o 0 (.int (0))).2.1 o j = g.2.1 o j := fun j hj => hs_ne (fun z => hj z.2)
  have w1 : (hset g o 0 (.int (0))).2.1 o 0 = .int (0) := hs_eq
  generalize hset g o 0 (.int (0)) = g1 at *
  have kd1 : (g1.1 o).1 = 8 := by rw [c1]; exact kd
  have od1 : ∀ a, a < o → g1.1 a = g.1 a ∧ g1.2.1 a = g.2.1 a := fun a ha => by
    exact a1 a (Nat.ne_of_lt ha)
  refine e_Va_init_9 hl _ _ _ _ 0 0 ⟨by decide, by decide, ⟨ho, by rw [(hn_o (by rw [n1]; exact Nat.ne_of_lt (@lt_k o 1 (by decide)))).1]; exact kd1⟩, ?_⟩
  rw [show Int32.toNatClampNeg (7 : Int32) = 7 from by decide, n1]
  obtain ⟨n2, a2, c2, s2, r2, f2, w2⟩ := mk_row (g := g1) (o := o) (i := 1) (q := (101, 7)) (c := (fun _ => defaultValue (aty 0))) n1 (Nat.ne_of_lt (@lt_k o 1 (by decide)))
  generalize hset (hnew g1 (101, 7) (fun _ => defaultValue (aty 0))) o 1 (.ref (o + 1)) = g2 at *
  have kd2 : (g2.1 o).1 = 8 := by rw [c2]; exact kd1
  have od2 : ∀ a, a < o → g2.1 a = g.1 a ∧ g2.2.1 a = g.2.1 a := fun a ha => by
    have y := a2 a (Nat.ne_of_lt ha) (Nat.ne_of_lt (Nat.lt_trans ha (@lt_k o 1 (by decide))))
    have z := od1 a ha
    exact ⟨by rw [y.1, z.1], by rw [y.2, z.2]⟩
  refine e_Va_init_17 hl _ _ _ _ (0 + 1) (0 + 7) ⟨by decide, by decide, ⟨ho, by rw [(hn_o (by rw [n2]; exact Nat.ne_of_lt (@lt_k o 2 (by decide)))).1]; exact kd2⟩, ?_⟩
  rw [show Int32.toNatClampNeg (7 : Int32) = 7 from by decide, n2]
  obtain ⟨n3, a3, c3, s3, r3, f3, w3⟩ := mk_row (g := g2) (o := o) (i := 2) (q := (101, 7)) (c := (fun _ => defaultValue (aty 0))) n2 (Nat.ne_of_lt (@lt_k o 2 (by decide)))
  generalize hset (hnew g2 (101, 7) (fun _ => defaultValue (aty 0))) o 2 (.ref (o + 1 + 1)) = g3 at *
  have kd3 : (g3.1 o).1 = 8 := by rw [c3]; exact kd2
  have od3 : ∀ a, a < o → g3.1 a = g.1 a ∧ g3.2.1 a = g.2.1 a := fun a ha => by
    have y := a3 a (Nat.ne_of_lt ha) (Nat.ne_of_lt (Nat.lt_trans ha (@lt_k o 2 (by decide))))
    have z := od2 a ha
    exact ⟨by rw [y.1, z.1], by rw [y.2, z.2]⟩
  refine e_Va_init_25 hl _ _ _ _ ((0 + 1) + 1) ((0 + 7) + 7) ⟨by decide, by decide, ⟨ho, by rw [(hn_o (by rw [n3]; exact Nat.ne_of_lt (@lt_k o 3 (by decide)))).1]; exact kd3⟩, ?_⟩
  rw [show Int32.toNatClampNeg (7 : Int32) = 7 from by decide, n3]
  obtain ⟨n4, a4, c4, s4, r4, f4, w4⟩ := mk_row (g := g3) (o := o) (i := 3) (q := (101, 7)) (c := (fun _ => defaultValue (aty 0))) n3 (Nat.ne_of_lt (@lt_k o 3 (by decide)))
  generalize hset (hnew g3 (101, 7) (fun _ => defaultValue (aty 0))) o 3 (.ref (o + 1 + 1 + 1)) = g4 at *
  have kd4 : (g4.1 o).1 = 8 := by rw [c4]; exact kd3
  have od4 : ∀ a, a < o → g4.1 a = g.1 a ∧ g4.2.1 a = g.2.1 a := fun a ha => by
    have y := a4 a (Nat.ne_of_lt ha) (Nat.ne_of_lt (Nat.lt_trans ha (@lt_k o 3 (by decide))))
    have z := od3 a ha
    exact ⟨by rw [y.1, z.1], by rw [y.2, z.2]⟩
  refine e_Va_init_33 hl _ _ _ _ (((0 + 1) + 1) + 1) (((0 + 7) + 7) + 7) ⟨⟨ho, kd4⟩, ?_⟩
  have n5 : (hset g4 o 4 (.int (0))).2.2 = o + 1 + 1 + 1 + 1 := n4
  have a5 : ∀ a, a ≠ o → (hset g4 o 4 (.int (0))).1 a = g4.1 a ∧ (hset g4 o 4 (.int (0))).2.1 a = g4.2.1 a := fun a na => ⟨rfl, funext fun j => hs_ne (fun z => na z.1)⟩
  have c5 : (hset g4 o 4 (.int (0))).1 o = g4.1 o := rfl
  have f5 : ∀ j, j ≠ 4 → (hset g4 o 4 (.int (0))).2.1 o j = g4.2.1 o j := fun j hj => hs_ne (fun z => hj z.2)
  have w5 : (hset g4 o 4 (.int (0))).2.1 o 4 = .int (0) := hs_eq
  generalize hset g4 o 4 (.int (0)) = g5 at *
  have kd5 : (g5.1 o).1 = 8 := by rw [c5]; exact kd4
  have od5 : ∀ a, a < o → g5.1 a = g.1 a ∧ g5.2.1 a = g.2.1 a := fun a ha => by
    have y := a5 a (Nat.ne_of_lt ha)
    have z := od4 a ha
    exact ⟨by rw [y.1, z.1], by rw [y.2, z.2]⟩
  refine e_Va_init_38 hl _ _ _ _ (((0 + 1) + 1) + 1) (((0 + 7) + 7) + 7) ⟨⟨ho, kd5⟩, ?_⟩
  have n6 : (hset g5 o 5 (.int (0))).2.2 = o + 1 + 1 + 1 + 1 := n5
  have a6 : ∀ a, a ≠ o → (hset g5 o 5 (.int (0))).1 a = g5.1 a ∧ (hset g5 o 5 (.int (0))).2.1 a = g5.2.1 a := fun a na => ⟨rfl, funext fun j => hs_ne (fun z => na z.1)⟩
  have c6 : (hset g5 o 5 (.int (0))).1 o = g5.1 o := rfl
  have f6 : ∀ j, j ≠ 5 → (hset g5 o 5 (.int (0))).2.1 o j = g5.2.1 o j := fun j hj => hs_ne (fun z => hj z.2)
  have w6 : (hset g5 o 5 (.int (0))).2.1 o 5 = .int (0) := hs_eq
  generalize hset g5 o 5 (.int (0)) = g6 at *
  have kd6 : (g6.1 o).1 = 8 := by rw [c6]; exact kd5
  have od6 : ∀ a, a < o → g6.1 a = g.1 a ∧ g6.2.1 a = g.2.1 a := fun a ha => by
    have y := a6 a (Nat.ne_of_lt ha)
    have z := od5 a ha
    exact ⟨by rw [y.1, z.1], by rw [y.2, z.2]⟩
  refine e_Va_init_43 hl _ _ _ _ (((0 + 1) + 1) + 1) (((0 + 7) + 7) + 7) ⟨⟨ho, kd6⟩, ?_⟩
  have n7 : (hset g6 o 6 (.int (0))).2.2 = o + 1 + 1 + 1 + 1 := n6
  have a7 : ∀ a, a ≠ o → (hset g6 o 6 (.int (0))).1 a = g6.1 a ∧ (hset g6 o 6 (.int (0))).2.1 a = g6.2.1 a := fun a na => ⟨rfl, funext fun j => hs_ne (fun z => na z.1)⟩
  have c7 : (hset g6 o 6 (.int (0))).1 o = g6.1 o := rfl
  have f7 : ∀ j, j ≠ 6 → (hset g6 o 6 (.int (0))).2.1 o j = g6.2.1 o j := fun j hj => hs_ne (fun z => hj z.2)
  have w7 : (hset g6 o 6 (.int (0))).2.1 o 6 = .int (0) := hs_eq
  generalize hset g6 o 6 (.int (0)) = g7 at *
  have kd7 : (g7.1 o).1 = 8 := by rw [c7]; exact kd6
  have od7 : ∀ a, a < o → g7.1 a = g.1 a ∧ g7.2.1 a = g.2.1 a := fun a ha => by
    have y := a7 a (Nat.ne_of_lt ha)
    have z := od6 a ha
    exact ⟨by rw [y.1, z.1], by rw [y.2, z.2]⟩
  refine e_Va_init_48 hl _ _ _ _ (((0 + 1) + 1) + 1) (((0 + 7) + 7) + 7) ⟨by decide, by decide, ⟨ho, by rw [(hn_o (by rw [n7]; exact Nat.ne_of_lt (@lt_k o 4 (by decide)))).1]; exact kd7⟩, ?_⟩
  rw [show Int32.toNatClampNeg (10 : Int32) = 10 from by decide, n7]
  obtain ⟨n8, a8, c8, s8, r8, f8, w8⟩ := mk_row (g := g7) (o := o) (i := 7) (q := (101, 10)) (c := (fun _ => defaultValue (aty 0))) n7 (Nat.ne_of_lt (@lt_k o 4 (by decide)))
  generalize hset (hnew g7 (101, 10) (fun _ => defaultValue (aty 0))) o 7 (.ref (o + 1 + 1 + 1 + 1)) = g8 at *
  have kd8 : (g8.1 o).1 = 8 := by rw [c8]; exact kd7
  have od8 : ∀ a, a < o → g8.1 a = g.1 a ∧ g8.2.1 a = g.2.1 a := fun a ha => by
    have y := a8 a (Nat.ne_of_lt ha) (Nat.ne_of_lt (Nat.lt_trans ha (@lt_k o 4 (by decide))))
    have z := od7 a ha
    exact ⟨by rw [y.1, z.1], by rw [y.2, z.2]⟩
  refine e_Va_init_56 hl _ _ _ _ ((((0 + 1) + 1) + 1) + 1) ((((0 + 7) + 7) + 7) + 10) ⟨by decide, by decide, ⟨ho, by rw [(hn_o (by rw [n8]; exact Nat.ne_of_lt (@lt_k o 5 (by decide)))).1]; exact kd8⟩, ?_⟩
  rw [show Int32.toNatClampNeg (10 : Int32) = 10 from by decide, n8]
  obtain ⟨n9, a9, c9, s9, r9, f9, w9⟩ := mk_row (g := g8) (o := o) (i := 8) (q := (101, 10)) (c := (fun _ => defaultValue (aty 0))) n8 (Nat.ne_of_lt (@lt_k o 5 (by decide)))
  generalize hset (hnew g8 (101, 10) (fun _ => defaultValue (aty 0))) o 8 (.ref (o + 1 + 1 + 1 + 1 + 1)) = g9 at *
  have kd9 : (g9.1 o).1 = 8 := by rw [c9]; exact kd8
  have od9 : ∀ a, a < o → g9.1 a = g.1 a ∧ g9.2.1 a = g.2.1 a := fun a ha => by
    have y := a9 a (Nat.ne_of_lt ha) (Nat.ne_of_lt (Nat.lt_trans ha (@lt_k o 5 (by decide))))
    have z := od8 a ha
    exact ⟨by rw [y.1, z.1], by rw [y.2, z.2]⟩
  refine e_Va_init_64 hl _ _ _ _ (((((0 + 1) + 1) + 1) + 1) + 1) (((((0 + 7) + 7) + 7) + 10) + 10) ⟨by decide, by decide, ⟨ho, by rw [(hn_o (by rw [n9]; exact Nat.ne_of_lt (@lt_k o 6 (by decide)))).1]; exact kd9⟩, ?_⟩
  rw [show Int32.toNatClampNeg (10 : Int32) = 10 from by decide, n9]
  obtain ⟨n10, a10, c10, s10, r10, f10, w10⟩ := mk_row (g := g9) (o := o) (i := 9) (q := (101, 10)) (c := (fun _ => defaultValue (aty 0))) n9 (Nat.ne_of_lt (@lt_k o 6 (by decide)))
  generalize hset (hnew g9 (101, 10) (fun _ => defaultValue (aty 0))) o 9 (.ref (o + 1 + 1 + 1 + 1 + 1 + 1)) = g10 at *
  have kd10 : (g10.1 o).1 = 8 := by rw [c10]; exact kd9
  have od10 : ∀ a, a < o → g10.1 a = g.1 a ∧ g10.2.1 a = g.2.1 a := fun a ha => by
    have y := a10 a (Nat.ne_of_lt ha) (Nat.ne_of_lt (Nat.lt_trans ha (@lt_k o 6 (by decide))))
    have z := od9 a ha
    exact ⟨by rw [y.1, z.1], by rw [y.2, z.2]⟩
  refine e_Va_init_72 hl _ _ _ _ ((((((0 + 1) + 1) + 1) + 1) + 1) + 1) ((((((0 + 7) + 7) + 7) + 10) + 10) + 10) ⟨by decide, by decide, ⟨ho, by rw [(hn_o (by rw [n10]; exact Nat.ne_of_lt (@lt_k o 7 (by decide)))).1]; exact kd10⟩, ?_⟩
  rw [show Int32.toNatClampNeg (10 : Int32) = 10 from by decide, n10]
  obtain ⟨n11, a11, c11, s11, r11, f11, w11⟩ := mk_row (g := g10) (o := o) (i := 10) (q := (101, 10)) (c := (fun _ => defaultValue (aty 0))) n10 (Nat.ne_of_lt (@lt_k o 7 (by decide)))
  generalize hset (hnew g10 (101, 10) (fun _ => defaultValue (aty 0))) o 10 (.ref (o + 1 + 1 + 1 + 1 + 1 + 1 + 1)) = g11 at *
  have kd11 : (g11.1 o).1 = 8 := by rw [c11]; exact kd10
  have od11 : ∀ a, a < o → g11.1 a = g.1 a ∧ g11.2.1 a = g.2.1 a := fun a ha => by
    have y := a11 a (Nat.ne_of_lt ha) (Nat.ne_of_lt (Nat.lt_trans ha (@lt_k o 7 (by decide))))
    have z := od10 a ha
    exact ⟨by rw [y.1, z.1], by rw [y.2, z.2]⟩
  refine e_Va_init_80 hl _ _ _ _ (((((((0 + 1) + 1) + 1) + 1) + 1) + 1) + 1) (((((((0 + 7) + 7) + 7) + 10) + 10) + 10) + 10) ⟨by decide, by decide, ⟨ho, by rw [(hn_o (by rw [n11]; exact Nat.ne_of_lt (@lt_k o 8 (by decide)))).1]; exact kd11⟩, ?_⟩
  rw [show Int32.toNatClampNeg (10 : Int32) = 10 from by decide, n11]
  obtain ⟨n12, a12, c12, s12, r12, f12, w12⟩ := mk_row (g := g11) (o := o) (i := 11) (q := (101, 10)) (c := (fun _ => defaultValue (aty 0))) n11 (Nat.ne_of_lt (@lt_k o 8 (by decide)))
  generalize hset (hnew g11 (101, 10) (fun _ => defaultValue (aty 0))) o 11 (.ref (o + 1 + 1 + 1 + 1 + 1 + 1 + 1 + 1)) = g12 at *
  have kd12 : (g12.1 o).1 = 8 := by rw [c12]; exact kd11
  have od12 : ∀ a, a < o → g12.1 a = g.1 a ∧ g12.2.1 a = g.2.1 a := fun a ha => by
    have y := a12 a (Nat.ne_of_lt ha) (Nat.ne_of_lt (Nat.lt_trans ha (@lt_k o 8 (by decide))))
    have z := od11 a ha
    exact ⟨by rw [y.1, z.1], by rw [y.2, z.2]⟩
  refine e_Va_init_88 hl _ _ _ _ ((((((((0 + 1) + 1) + 1) + 1) + 1) + 1) + 1) + 1) ((((((((0 + 7) + 7) + 7) + 10) + 10) + 10) + 10) + 10) ⟨⟨ho, kd12⟩, ?_⟩
  have n13 : (hset g12 o 12 (.int (0))).2.2 = o + 1 + 1 + 1 + 1 + 1 + 1 + 1 + 1 + 1 := n12
  have a13 : ∀ a, a ≠ o → (hset g12 o 12 (.int (0))).1 a = g12.1 a ∧ (hset g12 o 12 (.int (0))).2.1 a = g12.2.1 a := fun a na => ⟨rfl, funext fun j => hs_ne (fun z => na z.1)⟩
  have c13 : (hset g12 o 12 (.int (0))).1 o = g12.1 o := rfl
  have f13 : ∀ j, j ≠ 12 → (hset g12 o 12 (.int (0))).2.1 o j = g12.2.1 o j := fun j hj => hs_ne (fun z => hj z.2)
  have w13 : (hset g12 o 12 (.int (0))).2.1 o 12 = .int (0) := hs_eq
  generalize hset g12 o 12 (.int (0)) = g13 at *
  have kd13 : (g13.1 o).1 = 8 := by rw [c13]; exact kd12
  have od13 : ∀ a, a < o → g13.1 a = g.1 a ∧ g13.2.1 a = g.2.1 a := fun a ha => by
    have y := a13 a (Nat.ne_of_lt ha)
    have z := od12 a ha
    exact ⟨by rw [y.1, z.1], by rw [y.2, z.2]⟩
  refine e_Va_init_93 hl _ _ _ _ ((((((((0 + 1) + 1) + 1) + 1) + 1) + 1) + 1) + 1) ((((((((0 + 7) + 7) + 7) + 10) + 10) + 10) + 10) + 10) ⟨⟨ho, kd13⟩, ?_⟩
  have n14 : (hset g13 o 13 (.int (0))).2.2 = o + 1 + 1 + 1 + 1 + 1 + 1 + 1 + 1 + 1 := n13
  have a14 : ∀ a, a ≠ o → (hset g13 o 13 (.int (0))).1 a = g13.1 a ∧ (hset g13 o 13 (.int (0))).2.1 a = g13.2.1 a := fun a na => ⟨rfl, funext fun j => hs_ne (fun z => na z.1)⟩
  have c14 : (hset g13 o 13 (.int (0))).1 o = g13.1 o := rfl
  have f14 : ∀ j, j ≠ 13 → (hset g13 o 13 (.int (0))).2.1 o j = g13.2.1 o j := fun j hj => hs_ne (fun z => hj z.2)
  have w14 : (hset g13 o 13 (.int (0))).2.1 o 13 = .int (0) := hs_eq
  generalize hset g13 o 13 (.int (0)) = g14 at *
  have kd14 : (g14.1 o).1 = 8 := by rw [c14]; exact kd13
  have od14 : ∀ a, a < o → g14.1 a = g.1 a ∧ g14.2.1 a = g.2.1 a := fun a ha => by
    have y := a14 a (Nat.ne_of_lt ha)
    have z := od13 a ha
    exact ⟨by rw [y.1, z.1], by rw [y.2, z.2]⟩
  refine e_Va_init_98 hl _ _ _ _ ((((((((0 + 1) + 1) + 1) + 1) + 1) + 1) + 1) + 1) ((((((((0 + 7) + 7) + 7) + 10) + 10) + 10) + 10) + 10) ⟨⟨ho, kd14⟩, ?_⟩
  have n15 : (hset g14 o 14 (.int (2))).2.2 = o + 1 + 1 + 1 + 1 + 1 + 1 + 1 + 1 + 1 := n14
  have a15 : ∀ a, a ≠ o → (hset g14 o 14 (.int (2))).1 a = g14.1 a ∧ (hset g14 o 14 (.int (2))).2.1 a = g14.2.1 a := fun a na => ⟨rfl, funext fun j => hs_ne (fun z => na z.1)⟩
  have c15 : (hset g14 o 14 (.int (2))).1 o = g14.1 o := rfl
  have f15 : ∀ j, j ≠ 14 → (hset g14 o 14 (.int (2))).2.1 o j = g14.2.1 o j := fun j hj => hs_ne (fun z => hj z.2)
  have w15 : (hset g14 o 14 (.int (2))).2.1 o 14 = .int (2) := hs_eq
  generalize hset g14 o 14 (.int (2)) = g15 at *
  have kd15 : (g15.1 o).1 = 8 := by rw [c15]; exact kd14
  have od15 : ∀ a, a < o → g15.1 a = g.1 a ∧ g15.2.1 a = g.2.1 a := fun a ha => by
    have y := a15 a (Nat.ne_of_lt ha)
    have z := od14 a ha
    exact ⟨by rw [y.1, z.1], by rw [y.2, z.2]⟩
  refine e_Va_init_103 hl _ _ _ _ ((((((((0 + 1) + 1) + 1) + 1) + 1) + 1) + 1) + 1) ((((((((0 + 7) + 7) + 7) + 10) + 10) + 10) + 10) + 10) ⟨⟨ho, kd15⟩, ?_⟩
  have n16 : (hset g15 o 15 (.int (1))).2.2 = o + 1 + 1 + 1 + 1 + 1 + 1 + 1 + 1 + 1 := n15
  have a16 : ∀ a, a ≠ o → (hset g15 o 15 (.int (1))).1 a = g15.1 a ∧ (hset g15 o 15 (.int (1))).2.1 a = g15.2.1 a := fun a na => ⟨rfl, funext fun j => hs_ne (fun z => na z.1)⟩
  have c16 : (hset g15 o 15 (.int (1))).1 o = g15.1 o := rfl
  have f16 : ∀ j, j ≠ 15 → (hset g15 o 15 (.int (1))).2.1 o j = g15.2.1 o j := fun j hj => hs_ne (fun z => hj z.2)
  have w16 : (hset g15 o 15 (.int (1))).2.1 o 15 = .int (1) := hs_eq
  generalize hset g15 o 15 (.int (1)) = g16 at *
  have kd16 : (g16.1 o).1 = 8 := by rw [c16]; exact kd15
  have od16 : ∀ a, a < o → g16.1 a = g.1 a ∧ g16.2.1 a = g.2.1 a := fun a ha => by
    have y := a16 a (Nat.ne_of_lt ha)
    have z := od15 a ha
    exact ⟨by rw [y.1, z.1], by rw [y.2, z.2]⟩
  refine e_Va_init_108 hl _ _ _ _ ((((((((0 + 1) + 1) + 1) + 1) + 1) + 1) + 1) + 1) ((((((((0 + 7) + 7) + 7) + 10) + 10) + 10) + 10) + 10) ⟨⟨ho, kd16⟩, ?_⟩
  have n17 : (hset g16 o 16 (.int (0))).2.2 = o + 1 + 1 + 1 + 1 + 1 + 1 + 1 + 1 + 1 := n16
  have a17 : ∀ a, a ≠ o → (hset g16 o 16 (.int (0))).1 a = g16.1 a ∧ (hset g16 o 16 (.int (0))).2.1 a = g16.2.1 a := fun a na => ⟨rfl, funext fun j => hs_ne (fun z => na z.1)⟩
  have c17 : (hset g16 o 16 (.int (0))).1 o = g16.1 o := rfl
  have f17 : ∀ j, j ≠ 16 → (hset g16 o 16 (.int (0))).2.1 o j = g16.2.1 o j := fun j hj => hs_ne (fun z => hj z.2)
  have w17 : (hset g16 o 16 (.int (0))).2.1 o 16 = .int (0) := hs_eq
  generalize hset g16 o 16 (.int (0)) = g17 at *
  have kd17 : (g17.1 o).1 = 8 := by rw [c17]; exact kd16
  have od17 : ∀ a, a < o → g17.1 a = g.1 a ∧ g17.2.1 a = g.2.1 a := fun a ha => by
    have y := a17 a (Nat.ne_of_lt ha)
    have z := od16 a ha
    exact ⟨by rw [y.1, z.1], by rw [y.2, z.2]⟩
  have S : VPre g17 o := ⟨⟨(by rw [c17, c16, c15, c14, c13, c12, c11, c10, c9, c8, c7, c6, c5, c4, c3, c2, c1]; exact k0), (by rw [f17 1 (by decide), f16 1 (by decide), f15 1 (by decide), f14 1 (by decide), f13 1 (by decide), f12 1 (by decide), f11 1 (by decide), f10 1 (by decide), f9 1 (by decide), f8 1 (by decide), f7 1 (by decide), f6 1 (by decide), f5 1 (by decide), f4 1 (by decide), f3 1 (by decide)]; exact w2), (by rw [f17 2 (by decide), f16 2 (by decide), f15 2 (by decide), f14 2 (by decide), f13 2 (by decide), f12 2 (by decide), f11 2 (by decide), f10 2 (by decide), f9 2 (by decide), f8 2 (by decide), f7 2 (by decide), f6 2 (by decide), f5 2 (by decide), f4 2 (by decide)]; exact w3), (by rw [f17 3 (by decide), f16 3 (by decide), f15 3 (by decide), f14 3 (by decide), f13 3 (by decide), f12 3 (by decide), f11 3 (by decide), f10 3 (by decide), f9 3 (by decide), f8 3 (by decide), f7 3 (by decide), f6 3 (by decide), f5 3 (by decide)]; exact w4), (by rw [f17 7 (by decide), f16 7 (by decide), f15 7 (by decide), f14 7 (by decide), f13 7 (by decide), f12 7 (by decide), f11 7 (by decide), f10 7 (by decide), f9 7 (by decide)]; exact w8), (by rw [f17 8 (by decide), f16 8 (by decide), f15 8 (by decide), f14 8 (by decide), f13 8 (by decide), f12 8 (by decide), f11 8 (by decide), f10 8 (by decide)]; exact w9), (by rw [f17 9 (by decide), f16 9 (by decide), f15 9 (by decide), f14 9 (by decide), f13 9 (by decide), f12 9 (by decide), f11 9 (by decide)]; exact w10), (by rw [f17 10 (by decide), f16 10 (by decide), f15 10 (by decide), f14 10 (by decide), f13 10 (by decide), f12 10 (by decide)]; exact w11), (by rw [f17 11 (by decide), f16 11 (by decide), f15 11 (by decide), f14 11 (by decide), f13 11 (by decide)]; exact w12)⟩, ⟨(by rw [(a17 (o + 1) (@ne_k0 o 1 (by decide))).1, (a16 (o + 1) (@ne_k0 o 1 (by decide))).1, (a15 (o + 1) (@ne_k0 o 1 (by decide))).1, (a14 (o + 1) (@ne_k0 o 1 (by decide))).1, (a13 (o + 1) (@ne_k0 o 1 (by decide))).1, (a12 (o + 1) (@ne_k0 o 1 (by decide)) (@ne_kk o 1 8 (by decide))).1, (a11 (o + 1) (@ne_k0 o 1 (by decide)) (@ne_kk o 1 7 (by decide))).1, (a10 (o + 1) (@ne_k0 o 1 (by decide)) (@ne_kk o 1 6 (by decide))).1, (a9 (o + 1) (@ne_k0 o 1 (by decide)) (@ne_kk o 1 5 (by decide))).1, (a8 (o + 1) (@ne_k0 o 1 (by decide)) (@ne_kk o 1 4 (by decide))).1, (a7 (o + 1) (@ne_k0 o 1 (by decide))).1, (a6 (o + 1) (@ne_k0 o 1 (by decide))).1, (a5 (o + 1) (@ne_k0 o 1 (by decide))).1, (a4 (o + 1) (@ne_k0 o 1 (by decide)) (@ne_kk o 1 3 (by decide))).1, (a3 (o + 1) (@ne_k0 o 1 (by decide)) (@ne_kk o 1 2 (by decide))).1]; exact s2), (by rw [(a17 (o + 2) (@ne_k0 o 2 (by decide))).1, (a16 (o + 2) (@ne_k0 o 2 (by decide))).1, (a15 (o + 2) (@ne_k0 o 2 (by decide))).1, (a14 (o + 2) (@ne_k0 o 2 (by decide))).1, (a13 (o + 2) (@ne_k0 o 2 (by decide))).1, (a12 (o + 2) (@ne_k0 o 2 (by decide)) (@ne_kk o 2 8 (by decide))).1, (a11 (o + 2) (@ne_k0 o 2 (by decide)) (@ne_kk o 2 7 (by decide))).1, (a10 (o + 2) (@ne_k0 o 2 (by decide)) (@ne_kk o 2 6 (by decide))).1, (a9 (o + 2) (@ne_k0 o 2 (by decide)) (@ne_kk o 2 5 (by decide))).1, (a8 (o + 2) (@ne_k0 o 2 (by decide)) (@ne_kk o 2 4 (by decide))).1, (a7 (o + 2) (@ne_k0 o 2 (by decide))).1, (a6 (o + 2) (@ne_k0 o 2 (by decide))).1, (a5 (o + 2) (@ne_k0 o 2 (by decide))).1, (a4 (o + 2) (@ne_k0 o 2 (by decide)) (@ne_kk o 2 3 (by decide))).1]; exact s3), (by rw [(a17 (o + 3) (@ne_k0 o 3 (by decide))).1, (a16 (o + 3) (@ne_k0 o 3 (by decide))).1, (a15 (o + 3) (@ne_k0 o 3 (by decide))).1, (a14 (o + 3) (@ne_k0 o 3 (by decide))).1, (a13 (o + 3) (@ne_k0 o 3 (by decide))).1, (a12 (o + 3) (@ne_k0 o 3 (by decide)) (@ne_kk o 3 8 (by decide))).1, (a11 (o + 3) (@ne_k0 o 3 (by decide)) (@ne_kk o 3 7 (by decide))).1, (a10 (o + 3) (@ne_k0 o 3 (by decide)) (@ne_kk o 3 6 (by decide))).1, (a9 (o + 3) (@ne_k0 o 3 (by decide)) (@ne_kk o 3 5 (by decide))).1, (a8 (o + 3) (@ne_k0 o 3 (by decide)) (@ne_kk o 3 4 (by decide))).1, (a7 (o + 3) (@ne_k0 o 3 (by decide))).1, (a6 (o + 3) (@ne_k0 o 3 (by decide))).1, (a5 (o + 3) (@ne_k0 o 3 (by decide))).1]; exact s4), (by rw [(a17 (o + 4) (@ne_k0 o 4 (by decide))).1, (a16 (o + 4) (@ne_k0 o 4 (by decide))).1, (a15 (o + 4) (@ne_k0 o 4 (by decide))).1, (a14 (o + 4) (@ne_k0 o 4 (by decide))).1, (a13 (o + 4) (@ne_k0 o 4 (by decide))).1, (a12 (o + 4) (@ne_k0 o 4 (by decide)) (@ne_kk o 4 8 (by decide))).1, (a11 (o + 4) (@ne_k0 o 4 (by decide)) (@ne_kk o 4 7 (by decide))).1, (a10 (o + 4) (@ne_k0 o 4 (by decide)) (@ne_kk o 4 6 (by decide))).1, (a9 (o + 4) (@ne_k0 o 4 (by decide)) (@ne_kk o 4 5 (by decide))).1]; exact s8), (by rw [(a17 (o + 5) (@ne_k0 o 5 (by decide))).1, (a16 (o + 5) (@ne_k0 o 5 (by decide))).1, (a15 (o + 5) (@ne_k0 o 5 (by decide))).1, (a14 (o + 5) (@ne_k0 o 5 (by decide))).1, (a13 (o + 5) (@ne_k0 o 5 (by decide))).1, (a12 (o + 5) (@ne_k0 o 5 (by decide)) (@ne_kk o 5 8 (by decide))).1, (a11 (o + 5) (@ne_k0 o 5 (by decide)) (@ne_kk o 5 7 (by decide))).1, (a10 (o + 5) (@ne_k0 o 5 (by decide)) (@ne_kk o 5 6 (by decide))).1]; exact s9), (by rw [(a17 (o + 6) (@ne_k0 o 6 (by decide))).1, (a16 (o + 6) (@ne_k0 o 6 (by decide))).1, (a15 (o + 6) (@ne_k0 o 6 (by decide))).1, (a14 (o + 6) (@ne_k0 o 6 (by decide))).1, (a13 (o + 6) (@ne_k0 o 6 (by decide))).1, (a12 (o + 6) (@ne_k0 o 6 (by decide)) (@ne_kk o 6 8 (by decide))).1, (a11 (o + 6) (@ne_k0 o 6 (by decide)) (@ne_kk o 6 7 (by decide))).1]; exact s10), (by rw [(a17 (o + 7) (@ne_k0 o 7 (by decide))).1, (a16 (o + 7) (@ne_k0 o 7 (by decide))).1, (a15 (o + 7) (@ne_k0 o 7 (by decide))).1, (a14 (o + 7) (@ne_k0 o 7 (by decide))).1, (a13 (o + 7) (@ne_k0 o 7 (by decide))).1, (a12 (o + 7) (@ne_k0 o 7 (by decide)) (@ne_kk o 7 8 (by decide))).1]; exact s11), (by rw [(a17 (o + 8) (@ne_k0 o 8 (by decide))).1, (a16 (o + 8) (@ne_k0 o 8 (by decide))).1, (a15 (o + 8) (@ne_k0 o 8 (by decide))).1, (a14 (o + 8) (@ne_k0 o 8 (by decide))).1, (a13 (o + 8) (@ne_k0 o 8 (by decide))).1]; exact s12)⟩, ⟨(by rw [f17 0 (by decide), f16 0 (by decide), f15 0 (by decide), f14 0 (by decide), f13 0 (by decide), f12 0 (by decide), f11 0 (by decide), f10 0 (by decide), f9 0 (by decide), f8 0 (by decide), f7 0 (by decide), f6 0 (by decide), f5 0 (by decide), f4 0 (by decide), f3 0 (by decide), f2 0 (by decide)]; exact w1), (by rw [f17 4 (by decide), f16 4 (by decide), f15 4 (by decide), f14 4 (by decide), f13 4 (by decide), f12 4 (by decide), f11 4 (by decide), f10 4 (by decide), f9 4 (by decide), f8 4 (by decide), f7 4 (by decide), f6 4 (by decide)]; exact w5), (by rw [f17 5 (by decide), f16 5 (by decide), f15 5 (by decide), f14 5 (by decide), f13 5 (by decide), f12 5 (by decide), f11 5 (by decide), f10 5 (by decide), f9 5 (by decide), f8 5 (by decide), f7 5 (by decide)]; exact w6), (by rw [f17 6 (by decide), f16 6 (by decide), f15 6 (by decide), f14 6 (by decide), f13 6 (by decide), f12 6 (by decide), f11 6 (by decide), f10 6 (by decide), f9 6 (by decide), f8 6 (by decide)]; exact w7), (by rw [f17 12 (by decide), f16 12 (by decide), f15 12 (by decide), f14 12 (by decide)]; exact w13), (by rw [f17 13 (by decide), f16 13 (by decide), f15 13 (by decide)]; exact w14), (by rw [f17 14 (by decide), f16 14 (by decide)]; exact w15), (by rw [f17 15 (by decide)]; exact w16), (by exact w17)⟩, (by rw [(a17 (o + 1) (@ne_k0 o 1 (by decide))).2, (a16 (o + 1) (@ne_k0 o 1 (by decide))).2, (a15 (o + 1) (@ne_k0 o 1 (by decide))).2, (a14 (o + 1) (@ne_k0 o 1 (by decide))).2, (a13 (o + 1) (@ne_k0 o 1 (by decide))).2, (a12 (o + 1) (@ne_k0 o 1 (by decide)) (@ne_kk o 1 8 (by decide))).2, (a11 (o + 1) (@ne_k0 o 1 (by decide)) (@ne_kk o 1 7 (by decide))).2, (a10 (o + 1) (@ne_k0 o 1 (by decide)) (@ne_kk o 1 6 (by decide))).2, (a9 (o + 1) (@ne_k0 o 1 (by decide)) (@ne_kk o 1 5 (by decide))).2, (a8 (o + 1) (@ne_k0 o 1 (by decide)) (@ne_kk o 1 4 (by decide))).2, (a7 (o + 1) (@ne_k0 o 1 (by decide))).2, (a6 (o + 1) (@ne_k0 o 1 (by decide))).2, (a5 (o + 1) (@ne_k0 o 1 (by decide))).2, (a4 (o + 1) (@ne_k0 o 1 (by decide)) (@ne_kk o 1 3 (by decide))).2, (a3 (o + 1) (@ne_k0 o 1 (by decide)) (@ne_kk o 1 2 (by decide))).2]; exact r2), (by rw [(a17 (o + 2) (@ne_k0 o 2 (by decide))).2, (a16 (o + 2) (@ne_k0 o 2 (by decide))).2, (a15 (o + 2) (@ne_k0 o 2 (by decide))).2, (a14 (o + 2) (@ne_k0 o 2 (by decide))).2, (a13 (o + 2) (@ne_k0 o 2 (by decide))).2, (a12 (o + 2) (@ne_k0 o 2 (by decide)) (@ne_kk o 2 8 (by decide))).2, (a11 (o + 2) (@ne_k0 o 2 (by decide)) (@ne_kk o 2 7 (by decide))).2, (a10 (o + 2) (@ne_k0 o 2 (by decide)) (@ne_kk o 2 6 (by decide))).2, (a9 (o + 2) (@ne_k0 o 2 (by decide)) (@ne_kk o 2 5 (by decide))).2, (a8 (o + 2) (@ne_k0 o 2 (by decide)) (@ne_kk o 2 4 (by decide))).2, (a7 (o + 2) (@ne_k0 o 2 (by decide))).2, (a6 (o + 2) (@ne_k0 o 2 (by decide))).2, (a5 (o + 2) (@ne_k0 o 2 (by decide))).2, (a4 (o + 2) (@ne_k0 o 2 (by decide)) (@ne_kk o 2 3 (by decide))).2]; exact r3), (by rw [(a17 (o + 3) (@ne_k0 o 3 (by decide))).2, (a16 (o + 3) (@ne_k0 o 3 (by decide))).2, (a15 (o + 3) (@ne_k0 o 3 (by decide))).2, (a14 (o + 3) (@ne_k0 o 3 (by decide))).2, (a13 (o + 3) (@ne_k0 o 3 (by decide))).2, (a12 (o + 3) (@ne_k0 o 3 (by decide)) (@ne_kk o 3 8 (by decide))).2, (a11 (o + 3) (@ne_k0 o 3 (by decide)) (@ne_kk o 3 7 (by decide))).2, (a10 (o + 3) (@ne_k0 o 3 (by decide)) (@ne_kk o 3 6 (by decide))).2, (a9 (o + 3) (@ne_k0 o 3 (by decide)) (@ne_kk o 3 5 (by decide))).2, (a8 (o + 3) (@ne_k0 o 3 (by decide)) (@ne_kk o 3 4 (by decide))).2, (a7 (o + 3) (@ne_k0 o 3 (by decide))).2, (a6 (o + 3) (@ne_k0 o 3 (by decide))).2, (a5 (o + 3) (@ne_k0 o 3 (by decide))).2]; exact r4), (by rw [(a17 (o + 4) (@ne_k0 o 4 (by decide))).2, (a16 (o + 4) (@ne_k0 o 4 (by decide))).2, (a15 (o + 4) (@ne_k0 o 4 (by decide))).2, (a14 (o + 4) (@ne_k0 o 4 (by decide))).2, (a13 (o + 4) (@ne_k0 o 4 (by decide))).2, (a12 (o + 4) (@ne_k0 o 4 (by decide)) (@ne_kk o 4 8 (by decide))).2, (a11 (o + 4) (@ne_k0 o 4 (by decide)) (@ne_kk o 4 7 (by decide))).2, (a10 (o + 4) (@ne_k0 o 4 (by decide)) (@ne_kk o 4 6 (by decide))).2, (a9 (o + 4) (@ne_k0 o 4 (by decide)) (@ne_kk o 4 5 (by decide))).2]; exact r8), (by rw [(a17 (o + 5) (@ne_k0 o 5 (by decide))).2, (a16 (o + 5) (@ne_k0 o 5 (by decide))).2, (a15 (o + 5) (@ne_k0 o 5 (by decide))).2, (a14 (o + 5) (@ne_k0 o 5 (by decide))).2, (a13 (o + 5) (@ne_k0 o 5 (by decide))).2, (a12 (o + 5) (@ne_k0 o 5 (by decide)) (@ne_kk o 5 8 (by decide))).2, (a11 (o + 5) (@ne_k0 o 5 (by decide)) (@ne_kk o 5 7 (by decide))).2, (a10 (o + 5) (@ne_k0 o 5 (by decide)) (@ne_kk o 5 6 (by decide))).2]; exact r9), (by rw [(a17 (o + 6) (@ne_k0 o 6 (by decide))).2, (a16 (o + 6) (@ne_k0 o 6 (by decide))).2, (a15 (o + 6) (@ne_k0 o 6 (by decide))).2, (a14 (o + 6) (@ne_k0 o 6 (by decide))).2, (a13 (o + 6) (@ne_k0 o 6 (by decide))).2, (a12 (o + 6) (@ne_k0 o 6 (by decide)) (@ne_kk o 6 8 (by decide))).2, (a11 (o + 6) (@ne_k0 o 6 (by decide)) (@ne_kk o 6 7 (by decide))).2]; exact r10), (by rw [(a17 (o + 7) (@ne_k0 o 7 (by decide))).2, (a16 (o + 7) (@ne_k0 o 7 (by decide))).2, (a15 (o + 7) (@ne_k0 o 7 (by decide))).2, (a14 (o + 7) (@ne_k0 o 7 (by decide))).2, (a13 (o + 7) (@ne_k0 o 7 (by decide))).2, (a12 (o + 7) (@ne_k0 o 7 (by decide)) (@ne_kk o 7 8 (by decide))).2]; exact r11), (by rw [(a17 (o + 8) (@ne_k0 o 8 (by decide))).2, (a16 (o + 8) (@ne_k0 o 8 (by decide))).2, (a15 (o + 8) (@ne_k0 o 8 (by decide))).2, (a14 (o + 8) (@ne_k0 o 8 (by decide))).2, (a13 (o + 8) (@ne_k0 o 8 (by decide))).2]; exact r12)⟩
  exact va_end hl ho S od17 n17
end CTR
