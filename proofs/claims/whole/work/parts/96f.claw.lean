/-! ===== law(): the class ===== -/
theorem hn_1 {h : Hp} {q : Nat × Nat} {f : Nat → Value} : (hnew h q f).1 h.2.2 = q := by show (if h.2.2 = h.2.2 then q else _) = _; rw [if_pos rfl]
theorem hn_2 {h : Hp} {q : Nat × Nat} {f : Nat → Value} : (hnew h q f).2.1 h.2.2 = f := by funext j; show (if h.2.2 = h.2.2 then f j else _) = _; rw [if_pos rfl]
theorem hn_o {h : Hp} {q : Nat × Nat} {f : Nat → Value} {a : Nat} (n : a ≠ h.2.2) : (hnew h q f).1 a = h.1 a ∧ (hnew h q f).2.1 a = h.2.1 a := by
  refine ⟨?_, ?_⟩
  · show (if a = h.2.2 then q else h.1 a) = _; rw [if_neg n]
  · funext j; show (if a = h.2.2 then f j else h.2.1 a j) = _; rw [if_neg n]
/-- a new row, kept in a field -/
theorem mk_row {g : Hp} {o i N : Nat} {q : Nat × Nat} {c : Nat → Value} (eN : g.2.2 = N) (ho : o ≠ N) : (hset (hnew g q c) o i (.ref N)).2.2 = N + 1 ∧ (∀ a, a ≠ o → a ≠ N → (hset (hnew g q c) o i (.ref N)).1 a = g.1 a ∧ (hset (hnew g q c) o i (.ref N)).2.1 a = g.2.1 a) ∧ (hset (hnew g q c) o i (.ref N)).1 o = g.1 o ∧ (hset (hnew g q c) o i (.ref N)).1 N = q ∧ (hset (hnew g q c) o i (.ref N)).2.1 N = c ∧ (∀ j, j ≠ i → (hset (hnew g q c) o i (.ref N)).2.1 o j = g.2.1 o j) ∧ (hset (hnew g q c) o i (.ref N)).2.1 o i = .ref N := by
  subst eN
  refine ⟨rfl, fun a n1 n2 => ⟨(hn_o (q := q) (f := c) n2).1, funext fun j => ?_⟩, (hn_o (q := q) (f := c) ho).1, hn_1 (f := c), funext fun j => ?_, fun j hj => ?_, hs_eq⟩
  · rw [hs_ne (fun z => n1 z.1), (hn_o n2).2]
  · rw [hs_ne (fun z => ho z.1.symm), hn_2]
  · rw [hs_ne (fun z => hj z.2), (hn_o ho).2]
section CLW
variable {G : Gx} {h h' h1 : Hp} {tk : Nat → Nat} {x v la m : Nat} {A A' : Vs} {T : Tt} {ln : Int32} {im : Option Sv} {pa : Nat → Vs} {r : Nat} {b : Nat → Nat} {n : Nat} {fl : Int32} {D : List Ln}
theorem lw_init2 (hl : G.1.stackTraces = false) (hx : G.n0 ≤ x) {g : Hp} (hn : g.2.2 = la + 1) (hla : x + 22 ≤ la) (k0 : g.1 la = (1, 5)) (S : RdS g x) (d12 : D.length ≤ 12) (L : LkA g x D) (R : LrA g x (opsD D)) : EvM G m_La_init2 [.ref la, .int (nI D.length), .ref (x + 18), .ref (x + 19), .ref (x + 20), .ref (x + 21)] g (fun o h' => o = .inl none ∧ LwO h' la D ∧ (∀ a, a < la → h'.1 a = g.1 a ∧ h'.2.1 a = g.2.1 a) ∧ h'.2.2 = la + 5) := by
  obtain ⟨-, o8, oc⟩ := R
  have s18 := S.2.2.2.2.1.1
  have s19 := S.2.2.2.2.1.2.1
  have s20 := S.2.2.2.2.1.2.2.1
  have s21 := S.2.2.2.2.1.2.2.2
  have ii := S.2.2.2.2.2
  refine en_La_init2 g _ _ _ _ _ _ _ (e_La_init2_0 hl g _ _ _ _ _ _ _ (e_La_init2_4 hl g _ _ _ _ _ _ _ 0 0 ⟨⟨by omega, by rw [k0]⟩, ?_⟩))
  have a1 : ∀ a, a ≠ la → (hset g la 0 (.int (nI D.length))).1 a = g.1 a ∧ (hset g la 0 (.int (nI D.length))).2.1 a = g.2.1 a := fun a na => ⟨rfl, funext fun j => hs_ne (fun z => na z.1)⟩
  have b1 : (hset g la 0 (.int (nI D.length))).2.1 la 0 = .int (nI D.length) := hs_eq
  have c1 : (hset g la 0 (.int (nI D.length))).1 la = (1, 5) := k0
  have n1 : (hset g la 0 (.int (nI D.length))).2.2 = la + 1 := hn
  generalize hset g la 0 (.int (nI D.length)) = g1 at *
  /- the kinds -/
  have q18 := a1 (x + 18) (by omega)
  refine e_La_init2_9 hl _ _ _ _ _ _ _ _ 0 0 ⟨12, by unfold aN; rw [q18.1]; exact s18, by omega, fun j hj => by rw [q18.2]; exact ii _ j (by omega) (by omega) hj, by decide, ⟨12, hn_1, by omega⟩, ⟨by omega, by rw [(hn_o (by omega)).1, c1]⟩, ?_⟩
  rw [n1]
  obtain ⟨n2, a2, c2, s2, r2, f2, w2⟩ := mk_row (g := g1) (o := la) (i := 1) (q := (101, 12)) (c := g1.2.1 (x + 18)) n1 (by omega)
  generalize hset (hnew g1 (101, 12) (g1.2.1 (x + 18))) la 1 (.ref (la + 1)) = g2 at *
  have q19 := a2 (x + 19) (by omega) (by omega)
  have p19 := a1 (x + 19) (by omega)
  refine e_La_init2_20 hl _ _ _ _ _ _ _ (0 + 1) (0 + 12) ⟨12, by unfold aN; rw [q19.1, p19.1]; exact s19, by omega, fun j hj => by rw [q19.2, p19.2]; exact ii _ j (by omega) (by omega) hj, by decide, ⟨12, hn_1, by omega⟩, ⟨by omega, by rw [(hn_o (by omega)).1, c2, c1]⟩, ?_⟩
  rw [n2]
  obtain ⟨n3, a3, c3, s3, r3, f3, w3⟩ := mk_row (g := g2) (o := la) (i := 2) (q := (101, 12)) (c := g2.2.1 (x + 19)) n2 (by omega)
  generalize hset (hnew g2 (101, 12) (g2.2.1 (x + 19))) la 2 (.ref (la + 1 + 1)) = g3 at *
  have q20 := a3 (x + 20) (by omega) (by omega)
  have p20 := a2 (x + 20) (by omega) (by omega)
  have t20 := a1 (x + 20) (by omega)
  refine e_La_init2_31 hl _ _ _ _ _ _ (0 + 1 + 1) (0 + 12 + 12) ⟨12, by unfold aN; rw [q20.1, p20.1, t20.1]; exact s20, by omega, fun j hj => by rw [q20.2, p20.2, t20.2]; exact ii _ j (by omega) (by omega) hj, by decide, ⟨12, hn_1, by omega⟩, ⟨by omega, by rw [(hn_o (by omega)).1, c3, c2, c1]⟩, ?_⟩
  rw [n3]
  obtain ⟨n4, a4, c4, s4, r4, f4, w4⟩ := mk_row (g := g3) (o := la) (i := 3) (q := (101, 12)) (c := g3.2.1 (x + 20)) n3 (by omega)
  generalize hset (hnew g3 (101, 12) (g3.2.1 (x + 20))) la 3 (.ref (la + 1 + 1 + 1)) = g4 at *
  have kd4 : (g4.1 la).1 = 1 := by rw [c4, c3, c2, c1]
  have old4 : ∀ a, a < la → g4.1 a = g.1 a ∧ g4.2.1 a = g.2.1 a := fun a ha => by
    have y4 := a4 a (by omega) (by omega)
    have y3 := a3 a (by omega) (by omega)
    have y2 := a2 a (by omega) (by omega)
    have y1 := a1 a (by omega)
    exact ⟨by rw [y4.1, y3.1, y2.1, y1.1], by rw [y4.2, y3.2, y2.2, y1.2]⟩
  /- the steps -/
  have last : ∀ (N : Nat), N = (opsD D).length → Ev G m_La_init2 70 [.ref la, un, un, un, un, .ref (x + 21)] [] (hset (hnew g4 (101, N) (fun _ => defaultValue (aty 0))) la 4 (.ref g4.2.2)) (0 + 1 + 1 + 1 + 1) (0 + 12 + 12 + 12 + N) (fun o h' => o = .inl none ∧ LwO h' la D ∧ (∀ a, a < la → h'.1 a = g.1 a ∧ h'.2.1 a = g.2.1 a) ∧ h'.2.2 = la + 5) := by
    intro N eN
    rw [n4]
    obtain ⟨n5, a5, c5, s5, r5, f5, w5⟩ := mk_row (g := g4) (o := la) (i := 4) (q := (101, N)) (c := fun _ => defaultValue (aty 0)) n4 (by omega)
    generalize hset (hnew g4 (101, N) (fun _ => defaultValue (aty 0))) la 4 (.ref (la + 1 + 1 + 1 + 1)) = g5 at *
    have kd5 : (g5.1 la).1 = 1 := by rw [c5]; exact kd4
    have old5 : ∀ a, a < la → g5.1 a = g.1 a ∧ g5.2.1 a = g.2.1 a := fun a ha => by
      have y5 := a5 a (by omega) (by omega)
      have y4 := old4 a ha
      exact ⟨by rw [y5.1, y4.1], by rw [y5.2, y4.2]⟩
    have x21 := old5 (x + 21) (by omega)
    have cl : Int32.toNatClampNeg N.toInt32 = N := nI_clamp (n := N) (by omega)
    refine e_La_init2_70 hl _ _ _ _ _ _ ⟨_, ⟨kd5, w5⟩, _, ⟨kd5, w5⟩, N, s5, ⟨rfl, rfl⟩, ⟨800, N, ⟨by unfold aN; rw [x21.1]; exact s21, s5⟩, nI_pos (n := N) (by omega), by rw [cl]; omega, by rw [cl]; exact Nat.le_refl _⟩, by omega, fun j hj => ?_, rfl, ?_, fun a ha => ?_, n5⟩
    · rw [cl] at hj
      rw [x21.2]
      exact ⟨_, oc j _ (List.getElem?_eq_getElem (by omega))⟩
    · rw [cl]
      have z4 : ∀ a, a ≠ la + 1 + 1 + 1 + 1 → (hcpy g5 (x + 21) (la + 1 + 1 + 1 + 1) N).2.1 a = g5.2.1 a := fun a na => hcpy_ne na
      have sh : (hcpy g5 (x + 21) (la + 1 + 1 + 1 + 1) N).1 = g5.1 := rfl
      have e1 : g5.2.1 (la + 1) = g.2.1 (x + 18) := by rw [(a5 (la + 1) (by omega) (by omega)).2, (a4 (la + 1) (by omega) (by omega)).2, (a3 (la + 1) (by omega) (by omega)).2, r2, q18.2]
      have e2 : g5.2.1 (la + 2) = g.2.1 (x + 19) := by rw [(a5 (la + 2) (by omega) (by omega)).2, (a4 (la + 2) (by omega) (by omega)).2, show la + 2 = la + 1 + 1 from rfl, r3, q19.2, p19.2]
      have e3 : g5.2.1 (la + 3) = g.2.1 (x + 20) := by rw [(a5 (la + 3) (by omega) (by omega)).2, show la + 3 = la + 1 + 1 + 1 from rfl, r4, q20.2, p20.2, t20.2]
      refine ⟨⟨?_, ?_, ?_, ?_, ?_, ?_⟩, ⟨?_, ?_, ?_, ?_⟩, ⟨d12, o8⟩, fun i l hi => ?_, fun j o hj => ?_⟩
      · rw [sh, c5, c4, c3, c2, c1]
      · rw [z4 la (by omega), f5 0 (by omega), f4 0 (by omega), f3 0 (by omega), f2 0 (by omega)]; exact b1
      · rw [z4 la (by omega), f5 1 (by omega), f4 1 (by omega), f3 1 (by omega)]; exact w2
      · rw [z4 la (by omega), f5 2 (by omega), f4 2 (by omega)]; exact w3
      · rw [z4 la (by omega), f5 3 (by omega)]; exact w4
      · rw [z4 la (by omega)]; exact w5
      · rw [sh, (a5 (la + 1) (by omega) (by omega)).1, (a4 (la + 1) (by omega) (by omega)).1, (a3 (la + 1) (by omega) (by omega)).1]; exact s2
      · rw [sh, (a5 (la + 2) (by omega) (by omega)).1, (a4 (la + 2) (by omega) (by omega)).1]; exact s3
      · rw [sh, (a5 (la + 3) (by omega) (by omega)).1]; exact s4
      · rw [sh, ← eN]; exact s5
      · rw [z4 (la + 1) (by omega), z4 (la + 2) (by omega), z4 (la + 3) (by omega), e1, e2, e3]; exact L i l hi
      · have jl : j < N := by rw [eN]; exact (List.getElem?_eq_some_iff.mp hj).1
        show (if la + 4 = la + 1 + 1 + 1 + 1 ∧ j < N then g5.2.1 (x + 21) j else _) = _
        rw [if_pos ⟨rfl, jl⟩, x21.2]; exact oc j o hj
    · rw [hcpy_ne (by omega)]; exact old5 a ha
  refine e_La_init2_43 hl _ _ _ _ _ _ _ _ ⟨fun c => ?_, fun c => ⟨12, by unfold aN; rw [(old4 (x + 20) (by omega)).1]; exact s20, fun d => absurd d (nI_nlt (a := 12) d12 (by decide)), fun d => ?_⟩⟩
  · have D0 : D = [] := by
      cases D with
      | nil => rfl
      | cons l D => exact absurd c (nI_nle (n := (l :: D).length) (Nat.succ_pos _) (by omega))
    refine ⟨by decide, by decide, ⟨by omega, by rw [(hn_o (by omega)).1]; exact kd4⟩, ?_⟩
    exact last 0 (by rw [D0]; rfl)
  · have Dp : 0 < D.length := by
      rcases Nat.lt_or_ge 0 D.length with z | z
      · exact z
      · exact absurd (nI_le (b := 0) z (by decide)) c
    obtain ⟨l, el⟩ : ∃ l, D[D.length - 1]? = some l := ⟨_, List.getElem?_eq_getElem (by omega)⟩
    have e20 := (L _ l el).2.2
    rw [show D.length - 1 + 1 = D.length by omega, List.take_length] at e20
    have ix : nI D.length - 1 = nI (D.length - 1) := pk_sub (b := 1) (by omega)
    refine ⟨nI (opsD D).length, ?_, ⟨nI_pos (by omega), nI_le (b := 65536) (by omega) (by decide)⟩, ?_, ⟨by omega, by rw [(hn_o (by omega)).1]; exact kd4⟩, ?_⟩
    · rw [ix]
      exact aI_of (n := 12) (by rw [(old4 (x + 20) (by omega)).1]; exact s20) (by omega) (by decide) (by rw [(old4 (x + 20) (by omega)).2]; exact e20)
    · rw [nI_clamp (by omega)]; omega
    · rw [nI_clamp (by omega)]
      exact last _ rfl
theorem lr_made (hl : G.1.stackTraces = false) (hx : G.n0 ≤ x) (hN : x + 209 ≤ h.2.2) (S : RdS h x) (f5 : h.2.1 (x + 17) 5 = .int (nI D.length)) (d12 : D.length ≤ 12) (L : LkA h x D) (R : LrA h x (opsD D)) : EvM G m_Lr_made [.ref (x + 17)] h (fun o h' => o = .inl (some (.ref h.2.2)) ∧ LwO h' h.2.2 D ∧ (∀ a, a < h.2.2 → h'.1 a = h.1 a ∧ h'.2.1 a = h.2.1 a) ∧ h'.2.2 = h.2.2 + 5) := by
  have k : ∀ a, a < h.2.2 → (hnew h (1, 5) (dflt 0)).1 a = h.1 a ∧ (hnew h (1, 5) (dflt 0)).2.1 a = h.2.1 a := fun a ha => hn_o (by omega)
  have k17 := k (x + 17) (by omega)
  have kd : ((hnew h (1, 5) (dflt 0)).1 (x + 17)).1 = 2 := by rw [k17.1, S.2.2.2.1.1]
  have S' : RdS (hnew h (1, 5) (dflt 0)) x := by
    obtain ⟨⟨c1, c2, c3, c4⟩, ⟨c5, c6, c7⟩, ⟨c8, c9⟩, ⟨d1, d2, d3, d4, d5, d6⟩, ⟨d7, d8, d9, d10⟩, d11⟩ := S
    have t := fun (i : Nat) (hi : i ≤ 21) => k (x + i) (by omega)
    exact ⟨⟨by rw [(t 12 (by omega)).1]; exact c1, by rw [(t 12 (by omega)).2]; exact c2, by rw [(t 12 (by omega)).2]; exact c3, by rw [(t 12 (by omega)).2]; exact c4⟩, ⟨by rw [(t 13 (by omega)).1]; exact c5, by rw [(t 14 (by omega)).1]; exact c6, by rw [(t 15 (by omega)).1]; exact c7⟩, ⟨by rw [(t 16 (by omega)).1]; exact c8, by rw [(t 16 (by omega)).2]; exact c9⟩, ⟨by rw [k17.1]; exact d1, by rw [k17.2]; exact d2, by rw [k17.2]; exact d3, by rw [k17.2]; exact d4, by rw [k17.2]; exact d5, by rw [k17.2]; exact d6⟩, ⟨by rw [(t 18 (by omega)).1]; exact d7, by rw [(t 19 (by omega)).1]; exact d8, by rw [(t 20 (by omega)).1]; exact d9, by rw [(t 21 (by omega)).1]; exact d10⟩, fun a j h1 h2 h3 => by rw [(k a (by omega)).2]; exact d11 a j h1 h2 h3⟩
  refine en_Lr_made h _ _ (e_Lr_made_0 hl h _ _ ⟨by decide, _, ⟨kd, by rw [k17.2]; exact f5⟩, _, ⟨kd, S'.2.2.2.1.2.2.1⟩, _, ⟨kd, S'.2.2.2.1.2.2.2.1⟩, _, ⟨kd, S'.2.2.2.1.2.2.2.2.1⟩, _, ⟨kd, S'.2.2.2.1.2.2.2.2.2⟩, _, lw_init2 hl hx (la := h.2.2) rfl (by omega) hn_1 S' d12 (L.keep (fun a j h1 h2 => by rw [(k a (by omega)).2])) (R.keep (fun a j z => by rw [(k a (by omega)).2])), by decide, fun o h1 z => ⟨z.1, rfl, z.2.1, fun a ha => ?_, z.2.2.2⟩⟩)
  have y := z.2.2.1 a ha
  exact ⟨by rw [y.1, (k a ha).1], by rw [y.2, (k a ha).2]⟩
/-! cells that are new change nothing -/
theorem CVl.grow (C : CVl G h x la A T ln im pa r) (hN : x + 192 ≤ h.2.2) (k : ∀ a, a < h.2.2 → h'.1 a = h.1 a ∧ h'.2.1 a = h.2.1 a) (hn : h.2.2 ≤ h'.2.2) : CVl G h' x la A T ln im pa r := by
  obtain ⟨⟨⟨S0, S1, S2, S3, S4, S5, S6, S7, S8, S9⟩, ⟨P0, P1⟩, Q⟩, V0, L, I, np, m1, m2, m3, m4, m5⟩ := C
  have kx := k x (by omega)
  have k11 := k (x + 11) (by omega)
  have kL : ∀ {lb : Nat} {U : Tt} {q : Int32}, LwAt G h x lb U q → LwAt G h' x lb U q := fun L => L.keep (fun a h1 h2 => k a (by have := L.2.2.1; omega)) hn
  have kV : ∀ {v : Nat} {B : Vs} {lb : Nat}, v + 11 ≤ x + 192 → VlyAt h v B lb → VlyAt h' v B lb := fun h2 V => V.keep (fun a q1 q2 => k a (by omega))
  refine ⟨⟨⟨by rw [kx.1]; exact S0, by rw [kx.2]; exact S1, by rw [kx.2]; exact S2, by rw [kx.2]; exact S3, by rw [kx.2]; exact S4, by rw [kx.2]; exact S5, by rw [kx.2]; exact S6, by rw [kx.2]; exact S7, by rw [kx.2]; exact S8, by rw [kx.2]; exact S9⟩, ⟨by rw [k11.1]; exact P0, fun i hi => by rw [k11.2]; exact P1 i hi⟩, fun i hi => (Q i hi).keep (fun a h1 h2 => k a (by omega))⟩, kV (by omega) V0, kL L, ?_, np, m1, m2, by rw [kx.2]; exact m3, by rw [kx.2]; exact m4, fun i hi => kV (by omega) (m5 i hi)⟩
  unfold ImC at *
  cases im with
  | none => simp only at *; rw [kx.2]; exact I
  | some q =>
    obtain ⟨I1, li, I2, I3⟩ := I
    exact ⟨by rw [kx.2]; exact I1, li, kV (by omega) I2, kL I3⟩
theorem CT.grow (C : CT G h x la A T ln im pa r b n fl) (hN : x + 192 ≤ h.2.2) (k : ∀ a, a < h.2.2 → h'.1 a = h.1 a ∧ h'.2.1 a = h.2.1 a) (hn : h.2.2 ≤ h'.2.2) : CT G h' x la A T ln im pa r b n fl := by
  obtain ⟨C0, ⟨u, t1, t2, t3, t4, t5, t6, t7⟩, S, e⟩ := C
  have k1 := k (x + 1) (by omega)
  have k2 := k (x + 2) (by omega)
  exact ⟨C0.grow hN k hn, ⟨u, by rw [k1.1]; exact t1, by rw [k2.1]; exact t2, by rw [k1.2]; exact t3, by rw [k1.2]; exact t4, by rw [k1.2]; exact t5, t6, fun j hj => by rw [k2.2]; exact t7 j hj⟩, S.keep (fun a h1 h2 => (k a (by omega)).1) (fun a j z => by rw [(k a (by unfold xR at z; omega)).2]), by rw [(k x (by omega)).2]; exact e⟩
theorem MT.grow (X : MT G h m A T ln im pa r b n fl) {N : Nat} (hN : m + 16 ≤ N) (k : ∀ a, a < N → h'.1 a = h.1 a ∧ ∀ j, m ≤ a → h'.2.1 a j = h.2.1 a j) : MT G h' m A T ln im pa r b n fl := by
  obtain ⟨⟨W0, L, I, ⟨r1, r2⟩, c5, sn⟩, ⟨e, t1, t2, t3, t4, t5, t6, t7⟩, q⟩ := X
  have kc : ∀ a j, m ≤ a → a ≤ m + 15 → h'.2.1 a j = h.2.1 a j := fun a j h1 h2 => (k a (by omega)).2 j h1
  have ks : ∀ a, m ≤ a → a ≤ m + 15 → h'.1 a = h.1 a := fun a h1 h2 => (k a (by omega)).1
  refine ⟨⟨W0.keep ks (fun j _ => kc _ _ (by omega) (by omega)) (fun j _ => kc _ _ (by omega) (by omega)), L.congr (fun j hj => kc _ _ (by omega) (by omega)), I.keep (kc _ _ (by omega) (by omega)) (fun j _ => kc _ _ (by omega) (by omega)), ⟨r1, by rw [kc _ _ (by omega) (by omega)]; exact r2⟩, fun j hj => by rw [kc _ _ (by omega) (by omega)]; exact c5 j hj, fun i hi => ?_⟩, ⟨e, by rw [ks _ (by omega) (by omega)]; exact t1, by rw [ks _ (by omega) (by omega)]; exact t2, by rw [kc _ _ (by omega) (by omega)]; exact t3, by rw [kc _ _ (by omega) (by omega)]; exact t4, by rw [kc _ _ (by omega) (by omega)]; exact t5, t6, fun j hj => by rw [kc _ _ (by omega) (by omega)]; exact t7 j hj⟩, by rw [kc _ _ (by omega) (by omega)]; exact q⟩
  rw [kc (m + 1) 3 (by omega) (by omega)]
  exact (sn i hi).keep (fun j _ => kc _ _ (by omega) (by omega))
/-- another law -/
theorem VlyAt.law (V : VlyAt h v A la) (lb : Nat) : VlyAt (hset h v 17 (.ref lb)) v A lb := by
  refine ⟨V.1.keep (fun _ _ _ => rfl) (fun j hj => hs_ne (by omega)) hs_eq, fun k j hd => ?_, ⟨by rw [hs_ne (by omega)]; exact V.2.2.1.1, by rw [hs_ne (by omega)]; exact V.2.2.1.2⟩, V.2.2.2.keep (fun a h1 h2 => ⟨rfl, funext fun j => hs_ne (by omega)⟩) (fun _ _ _ => rfl)⟩
  rw [hs_ne (fun z => by
    have hz : vc k = 0 := by omega
    have := ((vplace hd).2 hz).2.2.2.2.2.2.2.2.2.2.1
    exact this z.2)]
  exact V.2.1 k j hd
theorem CT.lrd (C : CT G h x la A T ln im pa r b n fl) (F : Fs (lX x) h h') (S : RdS h' x) : CT G h' x la A T ln im pa r b n fl := by
  obtain ⟨C0, ⟨u, Tp⟩, ⟨⟨a1, a2, a3⟩, ⟨b1, ⟨b2, b3, b4, b5, b6⟩, b7⟩, -⟩, e⟩ := C
  have k : ∀ a j, ¬ lX x a j → h'.2.1 a j = h.2.1 a j := F.2.2
  refine ⟨C0.keep F (fun a j h1 h2 q z => by unfold lX rdX at z; omega) (fun a j q z => by unfold lX rdX at z; omega), ⟨u, Tp.keep F (fun a j z q => by unfold lX rdX at q; omega)⟩, ⟨⟨by rw [F.1]; exact a1, by rw [k _ _ (by unfold lX rdX; omega)]; exact a2, by rw [F.1]; exact a3⟩, ⟨by rw [F.1]; exact b1, ⟨by rw [k _ _ (by unfold lX rdX; omega)]; exact b2, by rw [k _ _ (by unfold lX rdX; omega)]; exact b3, by rw [k _ _ (by unfold lX rdX; omega)]; exact b4, by rw [k _ _ (by unfold lX rdX; omega)]; exact b5, by rw [k _ _ (by unfold lX rdX; omega)]; exact b6⟩, by rw [F.1]; exact b7⟩, S⟩, by rw [k _ _ (by unfold lX rdX; omega)]; exact e⟩
def lawQ (b : Nat → Nat) (n : Nat) : Int32 × Int32 := match (lawL b n).2 with
  | none => (1, 0)
  | some D => (0, nI D.length)
/-- what has changed, below the next address -/
def Gw (P : Nat → Nat → Prop) (h h' : Hp) : Prop := (∀ a, a < h.2.2 → h'.1 a = h.1 a ∧ ∀ j, ¬ P a j → h'.2.1 a j = h.2.1 a j) ∧ h.2.2 ≤ h'.2.2
theorem Fs.gw {P : Nat → Nat → Prop} (F : Fs P h h') : Gw P h h' := ⟨fun a _ => ⟨by rw [F.1], fun j n => F.2.2 a j n⟩, F.2.1⟩
def cLaw (G : Gx) (h : Hp) (x la : Nat) (A : Vs) (T : Tt) (ln : Int32) (im : Option Sv) (pa : Nat → Vs) (r : Nat) (b : Nat → Nat) (n : Nat) : Res → Hp → Prop := fun o h' => (((lawQ b n).1 = 0 ∧ o = .inl (some (.int (lawQ b n).2))) ∨ (¬ (lawQ b n).1 = 0 ∧ o = .inr (excs 0))) ∧ Gw (xZ x) h h' ∧ match (lawL b n).2 with
  | none => CT G h' x la A T ln im pa r b 0 (lR (lawL b n))
  | some D => ∃ la', CT G h' x la' A (lawT D) (nI D.length) im pa 0 b 0 (lR (lawL b n))
theorem lR_b {R : Nat × Option (List Ln)} (h : R.1 < 2 ^ 31) : lR R = -1 ↔ R.2.isSome = true := by
  unfold lR
  by_cases c : R.2.isSome = true
  · rw [if_pos c]; exact ⟨fun _ => c, fun _ => rfl⟩
  · rw [if_neg c]; exact ⟨fun z => absurd z (m1_ne h), fun z => absurd z c⟩
theorem c_law (hl : G.1.stackTraces = false) (hx : G.n0 ≤ x) (hN : x + 209 ≤ h.2.2) (O : Old G h tk) (C : CT G h x la A T ln im pa r b n fl) : EvM G m_Gr_law [.ref x] h (cLaw G h x la A T ln im pa r b n) := by
  refine en_Gr_law h _ x (e_Gr_law_0 hl h _ x ⟨_, C.S.r0, C.tk, _, c_useUp hl hx C, fun o1 h1 z => Or.inl ?_⟩)
  obtain ⟨z1, C1, T1, F1⟩ := z
  have O1 : Old G h1 tk := O.keepF F1 (fun a j z => by unfold xZ at z; omega)
  have k2 : (h1.1 (x + 17)).1 = 2 := by rw [C1.2.2.1.2.2.2.2.2.1.1]
  refine ⟨z1, _, C1.S.r2, _, C1.S.r0, k2, _, lr_read hl hx O1 C1.2.2.1.2.2 T1, fun o2 h2 z => Or.inl ?_⟩
  obtain ⟨z2, F2, S2, hb, dat⟩ := z
  have C2 := C1.lrd F2 S2
  refine ⟨_, z2, ⟨hx, C2.S.kd⟩, ?_⟩
  have C3 := C2.f12 (lR (lawL b n))
  have F3 : Fs (xZ x) h (hset h2 x 12 (.int (lR (lawL b n)))) := (F1.tr (F2.mono (fun a j z => by unfold lX rdX at z; unfold xZ; omega))).set (by unfold xZ; omega)
  have S3 : RdS (hset h2 x 12 (.int (lR (lawL b n)))) x := C3.2.2.1.2.2
  have dat3 : ∀ D, (lawL b n).2 = some D → (hset h2 x 12 (.int (lR (lawL b n)))).2.1 (x + 17) 5 = .int (nI D.length) ∧ D.length ≤ 12 ∧ LkA (hset h2 x 12 (.int (lR (lawL b n)))) x D ∧ LrA (hset h2 x 12 (.int (lR (lawL b n)))) x (opsD D) := fun D e => by
    obtain ⟨d1, d2, d3, d4⟩ := dat D e
    exact ⟨by rw [hs_ne (by omega)]; exact d1, d2, d3.keep (fun a j h1 h2 => hs_ne (by omega)), d4.keep (fun a j z => hs_ne (by omega))⟩
  have f12 : fI (hset h2 x 12 (.int (lR (lawL b n)))) 10 x 12 (lR (lawL b n)) := ⟨C3.S.kd, hs_eq⟩
  generalize hset h2 x 12 (.int (lR (lawL b n))) = g3 at *
  refine e_Gr_law_22 hl _ _ x _ _ ⟨_, f12, fun c => ?_, fun c => ?_⟩
  · have e : (lawL b n).2 = none := by
      cases z : (lawL b n).2 with
      | none => rfl
      | some a => exact absurd ((lR_b hb).mpr (by rw [z]; rfl)) c
    have eq : lawQ b n = (1, 0) := by unfold lawQ; rw [e]
    refine ⟨_, c_needNumber0 hl, by decide, fun o4 h4 z => Or.inr ?_⟩
    obtain ⟨y1, k, y2, rfl⟩ := z
    refine ⟨_, y1, ?_⟩
    unfold cLaw
    rw [eq, e]
    exact ⟨Or.inr ⟨one0, rfl⟩, (F3.nx y2).gw, C3.nx ⟨rfl, y2, fun _ _ _ => rfl⟩⟩
  · have hs := (lR_b hb).mp c
    obtain ⟨D, e⟩ : ∃ D, (lawL b n).2 = some D := Option.isSome_iff_exists.mp hs
    have eq : lawQ b n = (0, nI D.length) := by unfold lawQ; rw [e]
    obtain ⟨d1, d2, d3, d4⟩ := dat3 D e
    have N3 : x + 209 ≤ g3.2.2 := Nat.le_trans hN F3.2.1
    refine ⟨_, c_needNumber1 hl, by decide, fun o4 h4 z => Or.inl ⟨z.1, ?_⟩⟩
    rw [z.2]
    refine ⟨_, C3.S.r5, _, C3.S.r2, by rw [S3.2.2.2.1.1], _, lr_made hl hx N3 S3 d1 d2 d3 d4, by decide, fun o5 h5 y => Or.inl ⟨_, y.1, ?_⟩⟩
    obtain ⟨-, LO, k5, n5⟩ := y
    have C5 := C3.grow (by omega) k5 (by omega)
    refine ⟨⟨by omega, C5.V.kd⟩, ?_⟩
    have V6 := C5.V.law g3.2.2
    have F6 : Fs (inV (x + 27)) h5 (hset h5 (x + 27) 17 (.ref g3.2.2)) := Fs.rf.set ⟨by omega, by omega⟩
    have LO6 : LwO (hset h5 (x + 27) 17 (.ref g3.2.2)) g3.2.2 D := LO.keep (Sm.of F6 (fun a j h1 h2 z => by unfold inV at z; omega))
    have F6p : Fs (pX x (x + 27)) h5 (hset (hset h5 (x + 27) 17 (.ref g3.2.2)) x 10 (.int 0)) := (pX_of F6).set (Or.inl ⟨rfl, by decide⟩)
    have kd6 : ((hset h5 (x + 27) 17 (.ref g3.2.2)).1 x).1 = 10 := C5.S.kd
    refine e_Gr_law_52 hl _ _ x _ _ ⟨kd6, fun o h' => o = .inl none ∧ h' = hset (hset h5 (x + 27) 17 (.ref g3.2.2)) x 10 (.int 0), en_Gr_forgetActs _ _ x (e_Gr_forgetActs_0 hl _ _ x ⟨⟨hx, kd6⟩, rfl, rfl⟩), fun o7 h7 w => Or.inl ⟨w.1, ?_⟩⟩
    rw [w.2]
    have V7 : VlyAt (hset (hset h5 (x + 27) 17 (.ref g3.2.2)) x 10 (.int 0)) (x + 27) A g3.2.2 := V6.keep (fun a h1 h2 => ⟨rfl, funext fun j => hs_ne (by omega)⟩)
    have LO7 : LwO (hset (hset h5 (x + 27) 17 (.ref g3.2.2)) x 10 (.int 0)) g3.2.2 D := LO6.keep (fun a h1 h2 => ⟨rfl, funext fun j => hs_ne (by omega)⟩)
    have C7 : CVl G (hset (hset h5 (x + 27) 17 (.ref g3.2.2)) x 10 (.int 0)) x g3.2.2 A (lawT D) (nI D.length) im pa 0 := by
      obtain ⟨S, V, L, I, np, n1, n2, n3, n4, -⟩ := C5.1
      exact ⟨S.offX F6p (i0 := 0) rfl V7.vs, V7, ⟨lw_ok hl LO7, Or.inr (by omega), by show g3.2.2 + 5 ≤ h5.2.2; omega, LO7.kd, LO7.1.2.1⟩, I.offX F6p (by rw [hs_ne (by omega), hs_ne (by omega)]) (by omega) (by omega) (by omega), np, n1, by omega, hs_eq, by rw [hs_ne (by omega), hs_ne (by omega)]; exact n4, fun i hi => absurd hi (Nat.not_lt_zero _)⟩
    have C8 : CT G (hset (hset h5 (x + 27) 17 (.ref g3.2.2)) x 10 (.int 0)) x g3.2.2 A (lawT D) (nI D.length) im pa 0 b 0 (lR (lawL b n)) := by
      obtain ⟨-, ⟨u, Tp⟩, S, e⟩ := C5
      have F7 := pX_aX F6p (by omega) (by omega)
      exact ⟨C7, ⟨u, Tp.keep F7 (fun a j z => by unfold aX; omega)⟩, S.keep (fun a _ _ => by rw [F7.1]) (fun a j z => F7.2.2 a j (by unfold xR at z; unfold aX; omega)), by rw [F7.2.2 x 12 (by unfold aX; omega)]; exact e⟩
    refine ⟨_, C7.S.r5, _, C7.V.r17, _, ⟨LO7.kd, LO7.1.2.1⟩, ?_⟩
    unfold cLaw
    rw [eq, e]
    refine ⟨Or.inl ⟨rfl, rfl⟩, ⟨fun a ha => ⟨?_, fun j nz => ?_⟩, ?_⟩, g3.2.2, C8⟩
    · have : a < g3.2.2 := Nat.lt_of_lt_of_le ha F3.2.1
      show h5.1 a = h.1 a
      rw [(k5 a this).1, F3.1]
    · have : a < g3.2.2 := Nat.lt_of_lt_of_le ha F3.2.1
      rw [hs_ne (fun z => nz (by unfold xZ; omega)), hs_ne (fun z => nz (by unfold xZ; omega)), (k5 a this).2]
      exact F3.2.2 a j nz
    · show h.2.2 ≤ h5.2.2
      have := F3.2.1; omega
end CLW
