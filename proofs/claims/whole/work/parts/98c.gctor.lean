/-! ===== the constructor of GripEstates, and where both begin (printed by wip/whole/gctor.py) ===== -/
def b0 : Nat → Nat := fun _ => 0
theorem Sm.tr {lo hi lo' hi' : Nat} {h h1 h2 : Hp} (s : Sm lo hi h h1) (t : Sm lo' hi' h1 h2) (e1 : lo' ≤ lo) (e2 : hi ≤ hi') : Sm lo hi h h2 := fun a p q => by
  have y := s a p q
  have z := t a (by omega) (by omega)
  exact ⟨by rw [z.1, y.1], by rw [z.2, y.2]⟩
theorem Sm.sub {lo hi lo' hi' : Nat} {h h1 : Hp} (s : Sm lo hi h h1) (e1 : lo ≤ lo') (e2 : hi' ≤ hi) : Sm lo' hi' h h1 := fun a p q => s a (Nat.le_trans e1 p) (Nat.lt_of_lt_of_le q e2)
theorem NewO.un {g h1 : Hp} {o k : Nat} {q : Nat × Nat} {c : Nat → Value} (W : NewO (hnew g q c) h1 o k) (e : g.2.2 = o) : NewO g h1 o k := ⟨fun a ha => by
  have y := hn_o (h := g) (q := q) (f := c) (a := a) (by omega)
  rw [← y.1, ← y.2]; exact W.1 a ha, W.2⟩
theorem NewO.tw {g h1 h2 : Hp} {o k o' k' : Nat} (W : NewO g h1 o k) (V : NewO h1 h2 o' k') (e : o' = o + k) : NewO g h2 o (k + k') ∧ Sm o (o + k) h1 h2 := by
  refine ⟨⟨fun a ha => ?_, by rw [V.2, e]; omega⟩, fun a _ h2 => V.1 a (by omega)⟩
  have y := W.1 a ha
  have z := V.1 a (by omega)
  exact ⟨by rw [z.1, y.1], by rw [z.2, y.2]⟩
/-- an object is made, and kept in a field of x -/
theorem gstep {g h1 : Hp} {x o k : Nat} (W : NewO g h1 o k) (hx : x < o) (f y : Nat) : (hset h1 x f (.ref y)).2.2 = o + k ∧ Sm (x + 1) o g (hset h1 x f (.ref y)) ∧ (hset h1 x f (.ref y)).1 x = g.1 x ∧ Sm o (o + k) h1 (hset h1 x f (.ref y)) ∧ (∀ j, j ≠ f → (hset h1 x f (.ref y)).2.1 x j = g.2.1 x j) ∧ (hset h1 x f (.ref y)).2.1 x f = .ref y ∧ Sm 0 x g (hset h1 x f (.ref y)) := by
  have E : ∀ a, a ≠ x → (hset h1 x f (.ref y)).2.1 a = h1.2.1 a := fun a ha => funext fun j => hs_ne (fun z => ha z.1)
  refine ⟨W.2, fun a p q => ⟨(W.1 a q).1, by rw [E a (by omega)]; exact (W.1 a q).2⟩, (W.1 x hx).1, fun a p q => ⟨rfl, E a (by omega)⟩, fun j hj => by rw [hs_ne (fun z => hj z.2), (W.1 x hx).2], hs_eq, fun a p q => ⟨(W.1 a (by omega)).1, by rw [E a (by omega)]; exact (W.1 a (by omega)).2⟩⟩
theorem gset {g : Hp} {x N : Nat} {v : Value} (e : g.2.2 = N) (f : Nat) : (hset g x f v).2.2 = N ∧ Sm (x + 1) N g (hset g x f v) ∧ (hset g x f v).1 x = g.1 x ∧ (∀ j, j ≠ f → (hset g x f v).2.1 x j = g.2.1 x j) ∧ (hset g x f v).2.1 x f = v ∧ Sm 0 x g (hset g x f v) :=
  ⟨e, fun a p q => ⟨rfl, funext fun j => hs_ne (fun z => absurd z.1 (by omega))⟩, rfl, fun j hj => hs_ne (fun z => hj z.2), hs_eq, fun a p q => ⟨rfl, funext fun j => hs_ne (fun z => absurd z.1 (by omega))⟩⟩
theorem nI_nle12 : ∀ k, k < 12 → ¬ (12 : Int32) ≤ nI k := by decide
theorem b0_lt (j : Nat) : b0 j < 256 := (by decide : (0 : Nat) < 256)
theorem xk {x a b : Nat} (h : a ≤ b) : x + a ≤ x + b := Nat.add_le_add_left h x
theorem nI_succ12 : ∀ k, k < 12 → nI k + 1 = nI (k + 1) := by decide
section GCT
variable {G : Gx} {g h h' h1 : Hp} {x v la : Nat} {A : Vs}
theorem VlyAt.sm (V : VlyAt h v A la) (s : Sm v (v + 11) h h') : VlyAt h' v A la := V.keep (fun a p q => s a p (by omega))
theorem TdS.sm (T : TdS h x) (s : Sm (x + 3) (x + 5) h h') : TdS h' x := ⟨by rw [(s (x + 3) (by omega) (by omega)).1]; exact T.1, by rw [(s (x + 3) (by omega) (by omega)).2]; exact T.2.1, by rw [(s (x + 4) (by omega) (by omega)).1]; exact T.2.2⟩
theorem MtS.sm (T : MtS h x) (s : Sm (x + 5) (x + 11) h h') : MtS h' x := by
  unfold MtS at *
  rw [(s (x + 5) (by omega) (by omega)).1, (s (x + 5) (by omega) (by omega)).2, (s (x + 6) (by omega) (by omega)).1, (s (x + 7) (by omega) (by omega)).1, (s (x + 8) (by omega) (by omega)).1, (s (x + 9) (by omega) (by omega)).1, (s (x + 10) (by omega) (by omega)).1]
  exact T
theorem TpC.sm {b : Nat → Nat} {n u : Nat} (T : TpC h x b n u) (s : Sm (x + 1) (x + 3) h h') : TpC h' x b n u := by
  unfold TpC at *
  rw [(s (x + 1) (by omega) (by omega)).1, (s (x + 1) (by omega) (by omega)).2, (s (x + 2) (by omega) (by omega)).1, (s (x + 2) (by omega) (by omega)).2]
  exact T
theorem LwN.sm (T : LwN h la) (s : Sm la (la + 5) h h') : LwN h' la := ⟨by rw [(s la (by omega) (by omega)).1]; exact T.1, by rw [(s la (by omega) (by omega)).2]; exact T.2⟩
theorem rd_mk {h2 h3 : Hp} (R : (h.1 (x + 12) = (5, 6) ∧ h.2.1 (x + 12) 0 = .ref (x + 12 + 1) ∧ h.2.1 (x + 12) 1 = .ref (x + 12 + 2) ∧ h.2.1 (x + 12) 2 = .ref (x + 12 + 3)) ∧ (h.1 (x + 12 + 1) = (105, 401) ∧ h.1 (x + 12 + 2) = (101, 401) ∧ h.1 (x + 12 + 3) = (101, 401))) (s : Sm (x + 12) (x + 16) h h') (R2 : h2.1 (x + 16) = (9, 1) ∧ h2.2.1 (x + 16) 0 = .ref (x + 12)) (s2 : Sm (x + 16) (x + 17) h2 h')
    (R3 : (h3.1 (x + 17) = (2, 7) ∧ h3.2.1 (x + 17) 0 = .ref (x + 12) ∧ h3.2.1 (x + 17) 1 = .ref (x + 17 + 1) ∧ h3.2.1 (x + 17) 2 = .ref (x + 17 + 2) ∧ h3.2.1 (x + 17) 3 = .ref (x + 17 + 3) ∧ h3.2.1 (x + 17) 4 = .ref (x + 17 + 4)) ∧ (h3.1 (x + 17 + 1) = (101, 12) ∧ h3.1 (x + 17 + 2) = (101, 12) ∧ h3.1 (x + 17 + 3) = (101, 12) ∧ h3.1 (x + 17 + 4) = (101, 800)) ∧ (h3.2.1 (x + 17 + 1) = fun _ => .int 0) ∧ (h3.2.1 (x + 17 + 2) = fun _ => .int 0) ∧ (h3.2.1 (x + 17 + 3) = fun _ => .int 0)) (s3 : Sm (x + 17) (x + 22) h3 h') : RdS h' x := by
  obtain ⟨R3a, R3b, z1, z2, z3⟩ := R3
  unfold RdS
  rw [(s (x + 12) (by omega) (by omega)).1, (s (x + 12) (by omega) (by omega)).2, (s (x + 13) (by omega) (by omega)).1, (s (x + 14) (by omega) (by omega)).1, (s (x + 15) (by omega) (by omega)).1, (s2 (x + 16) (by omega) (by omega)).1, (s2 (x + 16) (by omega) (by omega)).2, (s3 (x + 17) (by omega) (by omega)).1, (s3 (x + 17) (by omega) (by omega)).2, (s3 (x + 18) (by omega) (by omega)).1, (s3 (x + 19) (by omega) (by omega)).1, (s3 (x + 20) (by omega) (by omega)).1, (s3 (x + 21) (by omega) (by omega)).1]
  refine ⟨R.1, R.2, R2, R3a, R3b, fun a j p q _ => ⟨0, ?_⟩⟩
  rw [(s3 a (by omega) (by omega)).2]
  obtain rfl | rfl | rfl : a = x + 17 + 1 ∨ a = x + 17 + 2 ∨ a = x + 17 + 3 := by omega
  · rw [z1]
  · rw [z2]
  · rw [z3]
/-- all but the valleys of the past -/
def Gi (h : Hp) (x : Nat) : Prop := (h.1 x = (10, 13) ∧ h.2.1 x 0 = .ref (x + 1) ∧ h.2.1 x 1 = .ref (x + 16) ∧ h.2.1 x 2 = .ref (x + 17) ∧ h.2.1 x 3 = .ref (x + 3) ∧ h.2.1 x 4 = .ref (x + 5) ∧ h.2.1 x 5 = .ref (x + 27) ∧ h.2.1 x 6 = .ref (x + 38) ∧ h.2.1 x 7 = .ref (x + 49) ∧ h.2.1 x 8 = .ref (x + 11)) ∧ (h.2.1 x 9 = .int 0 ∧ h.2.1 x 10 = .int 0 ∧ h.2.1 x 11 = .int 0 ∧ h.2.1 x 12 = .int (-1)) ∧ (TpC h x b0 0 0 ∧ XS2 h x) ∧ h.1 (x + 11) = (106, 12) ∧ LwN h (x + 22) ∧ VlyAt h (x + 27) A0 (x + 22) ∧ VlyAt h (x + 38) A0 (x + 22) ∧ VlyAt h (x + 49) A0 (x + 22)
theorem Gi.sm (S : Gi h x) (s : Sm x (x + 11) h h') (s11 : h'.1 (x + 11) = h.1 (x + 11)) (s2 : Sm (x + 12) (x + 60) h h') : Gi h' x := by
  obtain ⟨a, b, ⟨c, ⟨d1, d2, d3⟩⟩, e, f, v1, v2, v3⟩ := S
  have sx := s x (by omega) (by omega)
  unfold Gi
  rw [sx.1, sx.2, s11]
  have m : ∀ lo hi, x ≤ lo → hi ≤ x + 11 → Sm lo hi h h' := fun lo hi p q a y z => s a (by omega) (by omega)
  have n : ∀ lo hi, x + 12 ≤ lo → hi ≤ x + 60 → Sm lo hi h h' := fun lo hi p q a y z => s2 a (by omega) (by omega)
  have r3 : RdS h' x := by
    unfold RdS
    have q := fun a p1 p2 => s2 a p1 p2
    rw [(q (x + 12) (by omega) (by omega)).1, (q (x + 12) (by omega) (by omega)).2, (q (x + 13) (by omega) (by omega)).1, (q (x + 14) (by omega) (by omega)).1, (q (x + 15) (by omega) (by omega)).1, (q (x + 16) (by omega) (by omega)).1, (q (x + 16) (by omega) (by omega)).2, (q (x + 17) (by omega) (by omega)).1, (q (x + 17) (by omega) (by omega)).2, (q (x + 18) (by omega) (by omega)).1, (q (x + 19) (by omega) (by omega)).1, (q (x + 20) (by omega) (by omega)).1, (q (x + 21) (by omega) (by omega)).1]
    obtain ⟨w1, w2, w3, w4, w5, w6⟩ := d3
    exact ⟨w1, w2, w3, w4, w5, fun a j y z u => by rw [(q a (by omega) (by omega)).2]; exact w6 a j y z u⟩
  exact ⟨a, b, ⟨c.sm (m _ _ (by omega) (by omega)), d1.sm (m _ _ (by omega) (by omega)), d2.sm (m _ _ (by omega) (by omega)), r3⟩, e, f.sm (n _ _ (by omega) (by omega)), v1.sm (n _ _ (by omega) (by omega)), v2.sm (n _ _ (by omega) (by omega)), v3.sm (n _ _ (by omega) (by omega))⟩
/-- the past, so far -/
def Gp (h : Hp) (x k : Nat) : Prop := ∀ i, i < k → h.2.1 (x + 11) i = .ref (x + 60 + 11 * i) ∧ VlyAt h (x + 60 + 11 * i) A0 (x + 22)
theorem g_ct (hl : G.1.stackTraces = false) (S : Gi h x) (Q : Gp h x 12) (hn : h.2.2 = x + 192) (pa : Nat → Vs) : CT G h x (x + 22) A0 (fun _ _ _ => 0) (-1) none pa 0 b0 0 (-1) := by
  obtain ⟨a, ⟨b1, b2, b3, b4⟩, ⟨c, d⟩, e, f, v1, v2, v3⟩ := S
  refine ⟨⟨⟨a, ⟨e, fun i hi => (Q i hi).1⟩, fun i hi => ?_⟩, v1, ⟨lw_none hl f, Or.inl rfl, by omega, ?_⟩, b1, 0, by decide, by decide, b2, b3, fun i hi => absurd hi (by omega)⟩, ⟨0, c⟩, d, b4⟩
  · by_cases c0 : i < 3
    · obtain rfl | rfl | rfl : i = 0 ∨ i = 1 ∨ i = 2 := by omega
      · exact v1.vs
      · exact v2.vs
      · exact v3.vs
    · obtain ⟨t, rfl⟩ : ∃ t, i = t + 3 := ⟨i - 3, by omega⟩
      have := (Q t (by omega)).2.vs
      rw [show x + 27 + 11 * (t + 3) = x + 60 + 11 * t by omega]; exact this
  · exact ⟨by rw [f.1], f.2⟩
theorem g_loop (hl : G.1.stackTraces = false) (hx : G.n0 ≤ x) {P : Res → Hp → Prop} (hP : ∀ h', Gi h' x → Gp h' x 12 → h'.2.2 = x + 192 → Sm 0 x g h' → P (.inl none) h') : ∀ k, k ≤ 12 → ∀ h, Gi h x → Gp h x k → h.2.2 = x + 60 + 11 * k → Sm 0 x g h → Ev G m_Gr_init 144 [.ref x, un, .ref (x + 22), .int (nI k)] [] h (59 + 11 * k) (3917 + 393 * k) P := by
  refine for_up ?_ ?_
  · intro h S Q hn s
    exact e_Gr_init_144 hl _ _ _ _ _ _ _ ⟨fun _ => hP h S Q hn s, fun c => absurd (by decide) c⟩
  · intro k hk ih h S Q hn s
    have k0 : (h.1 x).1 = 10 := by rw [S.1.1]
    refine e_Gr_init_144 hl _ _ _ _ _ _ _ ⟨fun c => absurd c (nI_nle12 k hk), fun _ => ⟨x + 11, ⟨k0, S.1.2.2.2.2.2.2.2.2.2⟩, ⟨by omega, by omega⟩, _, i_Va (o := h.2.2) hl (by omega) rfl hn_1, ⟨by omega, by omega⟩, fun r h1 q => ?_⟩⟩
    obtain ⟨q0, W, V⟩ := q
    subst q0
    have W := W.un rfl
    rw [hn] at W V
    have lo : ∀ a, a < x + 60 + 11 * k → h1.1 a = h.1 a ∧ h1.2.1 a = h.2.1 a := W.1
    have e11 : h1.1 (x + 11) = (106, 12) := by rw [(lo _ (by omega)).1]; exact S.2.2.2.1
    rw [hn]
    refine ⟨rfl, show (h1.1 _).1 = 8 by rw [V.1.1.1], aW_of (by omega) e11 hk (by decide), ?_⟩
    refine e_Gr_init_164 hl _ _ _ _ _ _ _ ?_
    rw [nI_clamp (show k < 2 ^ 31 by omega), nI_succ12 k hk, show 59 + 11 * k + 1 + 10 = 59 + 11 * (k + 1) by omega, show 3917 + 393 * k + 19 + 374 = 3917 + 393 * (k + 1) by omega]
    have N : (hset h1 (x + 11) k (.ref (x + 60 + 11 * k))).2.2 = x + 60 + 11 * (k + 1) := by show h1.2.2 = _; rw [W.2]; omega
    have E : ∀ a, a ≠ x + 11 → (hset h1 (x + 11) k (.ref (x + 60 + 11 * k))).2.1 a = h1.2.1 a := fun a ha => funext fun j => hs_ne (fun z => ha z.1)
    have E2 : ∀ j, j ≠ k → (hset h1 (x + 11) k (.ref (x + 60 + 11 * k))).2.1 (x + 11) j = h1.2.1 (x + 11) j := fun j hj => hs_ne (fun z => hj z.2)
    have E3 : (hset h1 (x + 11) k (.ref (x + 60 + 11 * k))).2.1 (x + 11) k = .ref (x + 60 + 11 * k) := hs_eq
    have K : (hset h1 (x + 11) k (.ref (x + 60 + 11 * k))).1 = h1.1 := rfl
    generalize hset h1 (x + 11) k (.ref (x + 60 + 11 * k)) = q at *
    have sq : ∀ a, a < x + 60 + 11 * k → a ≠ x + 11 → q.1 a = h.1 a ∧ q.2.1 a = h.2.1 a := fun a ha na => ⟨by rw [K]; exact (lo a ha).1, by rw [E a na]; exact (lo a ha).2⟩
    refine ih q (S.sm (fun a _ z => sq a (by omega) (by omega)) (by rw [K]; exact (lo _ (by omega)).1) (fun a _ z => sq a (by omega) (by omega))) (fun i hi => ?_) N (fun a y z => ?_)
    · by_cases c : i < k
      · exact ⟨by rw [E2 i (by omega), (lo _ (by omega)).2]; exact (Q i c).1, (Q i c).2.sm (fun a y z => sq a (by omega) (by omega))⟩
      · obtain rfl : i = k := by omega
        exact ⟨E3, V.sm (fun a y z => ⟨by rw [K], E a (by omega)⟩)⟩
    · have y1 := s a y z
      have y2 := sq a (by omega) (by omega)
      exact ⟨by rw [y2.1, y1.1], by rw [y2.2, y1.2]⟩

set_option maxHeartbeats 8000000 in
theorem i_Gr (hl : G.1.stackTraces = false) (hx : G.n0 ≤ x) (hn : g.2.2 = x + 1) (k0 : g.1 x = (10, 13)) (pa : Nat → Vs) : EvM G m_Gr_init [.ref x] g (fun r h' => r = .inl none ∧ (Sm 0 x g h' ∧ h'.2.2 = x + 192) ∧ CT G h' x (x + 22) A0 (fun _ _ _ => 0) (-1) none pa 0 b0 0 (-1)) := by
  have kd : (g.1 x).1 = 10 := by rw [k0]
  refine en_Gr_init g _ _ (e_Gr_init_0 hl g _ _ ?_)
  refine e_Gr_init_4 hl _ _ _ _ _ ⟨by decide, _, i_Ta (o := g.2.2) hl (by rw [hn]; exact Nat.le_trans hx (Nat.le_add_right _ _)) rfl hn_1, by decide, fun r h1 q1 => ?_⟩
  obtain ⟨r1, W1, q1⟩ := q1
  subst r1
  replace W1 := W1.un rfl
  rw [hn] at W1 q1
  rw [hn]
  have kk1 : (h1.1 x).1 = 10 := by rw [(W1.1 x (@lt_k x 1 (by decide))).1]; exact kd
  refine ⟨rfl, ⟨hx, kk1⟩, ?_⟩
  obtain ⟨n1, a1, c1, t1, f1, w1, z1⟩ := gstep W1 (@lt_k x 1 (by decide)) 0 (x + 1)
  generalize hset h1 x 0 (.ref (x + 1)) = g1 at *
  have kd1 : (g1.1 x).1 = 10 := by rw [c1]; exact kd
  replace n1 : g1.2.2 = x + 3 := n1
  replace t1 : Sm (x + 1) (x + 3) h1 g1 := t1
  refine e_Gr_init_15 hl _ _ _ _ _ ⟨by decide, _, i_Td (o := g1.2.2) hl (by rw [n1]; exact Nat.le_trans hx (Nat.le_add_right _ _)) rfl hn_1, by decide, fun r h2 q2 => ?_⟩
  obtain ⟨r2, W2, q2⟩ := q2
  subst r2
  replace W2 := W2.un rfl
  rw [n1] at W2 q2
  rw [n1]
  have kk2 : (h2.1 x).1 = 10 := by rw [(W2.1 x (@lt_k x 3 (by decide))).1]; exact kd1
  refine ⟨rfl, ⟨hx, kk2⟩, ?_⟩
  obtain ⟨n2, a2, c2, t2, f2, w2, z2⟩ := gstep W2 (@lt_k x 3 (by decide)) 3 (x + 3)
  generalize hset h2 x 3 (.ref (x + 3)) = g2 at *
  have kd2 : (g2.1 x).1 = 10 := by rw [c2]; exact kd1
  replace n2 : g2.2.2 = x + 5 := n2
  replace t2 : Sm (x + 3) (x + 5) h2 g2 := t2
  refine e_Gr_init_26 hl _ _ _ _ _ ⟨by decide, _, i_Ma (o := g2.2.2) hl (by rw [n2]; exact Nat.le_trans hx (Nat.le_add_right _ _)) rfl hn_1, by decide, fun r h3 q3 => ?_⟩
  obtain ⟨r3, W3, q3⟩ := q3
  subst r3
  replace W3 := W3.un rfl
  rw [n2] at W3 q3
  rw [n2]
  have kk3 : (h3.1 x).1 = 10 := by rw [(W3.1 x (@lt_k x 5 (by decide))).1]; exact kd2
  refine ⟨rfl, ⟨hx, kk3⟩, ?_⟩
  obtain ⟨n3, a3, c3, t3, f3, w3, z3⟩ := gstep W3 (@lt_k x 5 (by decide)) 4 (x + 5)
  generalize hset h3 x 4 (.ref (x + 5)) = g3 at *
  have kd3 : (g3.1 x).1 = 10 := by rw [c3]; exact kd2
  replace n3 : g3.2.2 = x + 11 := n3
  replace t3 : Sm (x + 5) (x + 11) h3 g3 := t3
  refine e_Gr_init_37 hl _ _ _ _ _ ⟨by decide, by decide, ⟨hx, by rw [(hn_o (by rw [n3]; exact Nat.ne_of_lt (@lt_k x 11 (by decide)))).1]; exact kd3⟩, ?_⟩
  rw [show Int32.toNatClampNeg (12 : Int32) = 12 from by decide, n3]
  have W4 : NewO g3 (hnew g3 (106, 12) (fun _ => Value.null)) (x + 11) 1 := ⟨fun a ha => hn_o (by rw [n3]; exact Nat.ne_of_lt ha), by show g3.2.2 + 1 = _; rw [n3]⟩
  have q4 : (hnew g3 (106, 12) (fun _ => Value.null)).1 (x + 11) = (106, 12) := by have := @hn_1 g3 (106, 12) (fun _ => Value.null); rw [n3] at this; exact this
  obtain ⟨n4, a4, c4, t4, f4, w4, z4⟩ := gstep W4 (@lt_k x 11 (by decide)) 8 (x + 11)
  generalize hset (hnew g3 (106, 12) (fun _ => Value.null)) x 8 (.ref (x + 11)) = g4 at *
  have kd4 : (g4.1 x).1 = 10 := by rw [c4]; exact kd3
  replace n4 : g4.2.2 = x + 12 := n4
  replace t4 : Sm (x + 11) (x + 12) (hnew g3 (106, 12) (fun _ => Value.null)) g4 := t4
  refine e_Gr_init_46 hl _ _ _ _ _ ⟨⟨hx, kd4⟩, ?_⟩
  obtain ⟨n5, a5, c5, f5, w5, z5⟩ := gset (x := x) (v := .int (0)) n4 9
  generalize hset g4 x 9 (.int (0)) = g5 at *
  have kd5 : (g5.1 x).1 = 10 := by rw [c5]; exact kd4
  replace n5 : g5.2.2 = x + 12 := n5
  refine e_Gr_init_51 hl _ _ _ _ _ ⟨⟨hx, kd5⟩, ?_⟩
  obtain ⟨n6, a6, c6, f6, w6, z6⟩ := gset (x := x) (v := .int (0)) n5 10
  generalize hset g5 x 10 (.int (0)) = g6 at *
  have kd6 : (g6.1 x).1 = 10 := by rw [c6]; exact kd5
  replace n6 : g6.2.2 = x + 12 := n6
  refine e_Gr_init_56 hl _ _ _ _ _ ⟨⟨hx, kd6⟩, ?_⟩
  obtain ⟨n7, a7, c7, f7, w7, z7⟩ := gset (x := x) (v := .int (0)) n6 11
  generalize hset g6 x 11 (.int (0)) = g7 at *
  have kd7 : (g7.1 x).1 = 10 := by rw [c7]; exact kd6
  replace n7 : g7.2.2 = x + 12 := n7
  refine e_Gr_init_61 hl _ _ _ _ _ ⟨⟨hx, kd7⟩, ?_⟩
  obtain ⟨n8, a8, c8, f8, w8, z8⟩ := gset (x := x) (v := .int (-1)) n7 12
  generalize hset g7 x 12 (.int (-1)) = g8 at *
  have kd8 : (g8.1 x).1 = 10 := by rw [c8]; exact kd7
  replace n8 : g8.2.2 = x + 12 := n8
  refine e_Gr_init_66 hl _ _ _ _ _ ⟨by decide, _, i_Re (o := g8.2.2) hl (by rw [n8]; exact Nat.le_trans hx (Nat.le_add_right _ _)) rfl hn_1, by decide, fun r h9 q9 => ?_⟩
  obtain ⟨r9, W9, q9⟩ := q9
  subst r9
  replace W9 := W9.un rfl
  rw [n8] at W9 q9
  rw [n8]
  have m9 : h9.2.2 = x + 16 := W9.2
  refine ⟨rfl, by decide, _, i_Vr (o := h9.2.2) hl (by rw [m9]; exact Nat.le_trans hx (Nat.le_add_right _ _)) rfl hn_1, fun r hh9 p9 => ?_⟩
  obtain ⟨r9, V9, p9⟩ := p9
  subst r9
  replace V9 := V9.un rfl
  rw [m9] at V9 p9
  rw [m9]
  obtain ⟨U9, u9⟩ := W9.tw V9 rfl
  replace U9 : NewO g8 hh9 (x + 12) 5 := U9
  have kk9 : (hh9.1 x).1 = 10 := by rw [(U9.1 x (@lt_k x 12 (by decide))).1]; exact kd8
  refine ⟨rfl, ⟨hx, kk9⟩, ?_⟩
  obtain ⟨n9, a9, c9, t9, f9, w9, z9⟩ := gstep U9 (@lt_k x 12 (by decide)) 1 (x + 16)
  generalize hset hh9 x 1 (.ref (x + 16)) = g9 at *
  have kd9 : (g9.1 x).1 = 10 := by rw [c9]; exact kd8
  replace n9 : g9.2.2 = x + 17 := n9
  replace t9 : Sm (x + 12) (x + 17) hh9 g9 := t9
  replace u9 : Sm (x + 12) (x + 16) h9 hh9 := u9
  refine e_Gr_init_86 hl _ _ _ _ _ _ ⟨by decide, _, i_Lr (o := g9.2.2) hl (by rw [n9]; exact Nat.le_trans hx (Nat.le_add_right _ _)) rfl hn_1, by decide, fun r h10 q10 => ?_⟩
  obtain ⟨r10, W10, q10⟩ := q10
  subst r10
  replace W10 := W10.un rfl
  rw [n9] at W10 q10
  rw [n9]
  have kk10 : (h10.1 x).1 = 10 := by rw [(W10.1 x (@lt_k x 17 (by decide))).1]; exact kd9
  refine ⟨rfl, ⟨hx, kk10⟩, ?_⟩
  obtain ⟨n10, a10, c10, t10, f10, w10, z10⟩ := gstep W10 (@lt_k x 17 (by decide)) 2 (x + 17)
  generalize hset h10 x 2 (.ref (x + 17)) = g10 at *
  have kd10 : (g10.1 x).1 = 10 := by rw [c10]; exact kd9
  replace n10 : g10.2.2 = x + 22 := n10
  replace t10 : Sm (x + 17) (x + 22) h10 g10 := t10
  refine e_Gr_init_98 hl _ _ _ _ _ ⟨by decide, _, i_La (o := g10.2.2) hl (by rw [n10]; exact Nat.le_trans hx (Nat.le_add_right _ _)) rfl hn_1, by decide, fun r h11 q11 => ?_⟩
  obtain ⟨r11, W11, q11⟩ := q11
  subst r11
  replace W11 := W11.un rfl
  rw [n10] at W11 q11
  rw [n10]
  have m11 : h11.2.2 = x + 27 := W11.2
  refine ⟨rfl, by decide, _, i_Va (o := h11.2.2) hl (by rw [m11]; exact Nat.le_trans hx (Nat.le_add_right _ _)) rfl hn_1, by decide, fun r hh11 p11 => ?_⟩
  obtain ⟨r11, V11, p11⟩ := p11
  subst r11
  replace V11 := V11.un rfl
  rw [m11] at V11 p11
  rw [m11]
  obtain ⟨U11, u11⟩ := W11.tw V11 rfl
  replace U11 : NewO g10 hh11 (x + 22) 16 := U11
  have kk11 : (hh11.1 x).1 = 10 := by rw [(U11.1 x (@lt_k x 22 (by decide))).1]; exact kd10
  refine ⟨rfl, ⟨hx, kk11⟩, ?_⟩
  obtain ⟨n11, a11, c11, t11, f11, w11, z11⟩ := gstep U11 (@lt_k x 22 (by decide)) 5 (x + 27)
  generalize hset hh11 x 5 (.ref (x + 27)) = g11 at *
  have kd11 : (g11.1 x).1 = 10 := by rw [c11]; exact kd10
  replace n11 : g11.2.2 = x + 38 := n11
  replace t11 : Sm (x + 22) (x + 38) hh11 g11 := t11
  replace u11 : Sm (x + 22) (x + 27) h11 hh11 := u11
  refine e_Gr_init_118 hl _ _ _ _ _ _ ⟨by decide, _, i_Va (o := g11.2.2) hl (by rw [n11]; exact Nat.le_trans hx (Nat.le_add_right _ _)) rfl hn_1, by decide, fun r h12 q12 => ?_⟩
  obtain ⟨r12, W12, q12⟩ := q12
  subst r12
  replace W12 := W12.un rfl
  rw [n11] at W12 q12
  rw [n11]
  have kk12 : (h12.1 x).1 = 10 := by rw [(W12.1 x (@lt_k x 38 (by decide))).1]; exact kd11
  refine ⟨rfl, ⟨hx, kk12⟩, ?_⟩
  obtain ⟨n12, a12, c12, t12, f12, w12, z12⟩ := gstep W12 (@lt_k x 38 (by decide)) 6 (x + 38)
  generalize hset h12 x 6 (.ref (x + 38)) = g12 at *
  have kd12 : (g12.1 x).1 = 10 := by rw [c12]; exact kd11
  replace n12 : g12.2.2 = x + 49 := n12
  replace t12 : Sm (x + 38) (x + 49) h12 g12 := t12
  refine e_Gr_init_130 hl _ _ _ _ _ _ ⟨by decide, _, i_Va (o := g12.2.2) hl (by rw [n12]; exact Nat.le_trans hx (Nat.le_add_right _ _)) rfl hn_1, by decide, fun r h13 q13 => ?_⟩
  obtain ⟨r13, W13, q13⟩ := q13
  subst r13
  replace W13 := W13.un rfl
  rw [n12] at W13 q13
  rw [n12]
  have kk13 : (h13.1 x).1 = 10 := by rw [(W13.1 x (@lt_k x 49 (by decide))).1]; exact kd12
  refine ⟨rfl, ⟨hx, kk13⟩, ?_⟩
  obtain ⟨n13, a13, c13, t13, f13, w13, z13⟩ := gstep W13 (@lt_k x 49 (by decide)) 7 (x + 49)
  generalize hset h13 x 7 (.ref (x + 49)) = g13 at *
  have kd13 : (g13.1 x).1 = 10 := by rw [c13]; exact kd12
  replace n13 : g13.2.2 = x + 60 := n13
  replace t13 : Sm (x + 49) (x + 60) h13 g13 := t13
  have K13 : Sm (x + 1) (x + 60) g13 g13 := fun _ _ _ => ⟨rfl, rfl⟩
  have K12 : Sm (x + 1) (x + 49) g12 g13 := a13.tr K13 (Nat.le_refl _) (xk (by decide))
  have K11 : Sm (x + 1) (x + 38) g11 g13 := a12.tr K12 (Nat.le_refl _) (xk (by decide))
  have K10 : Sm (x + 1) (x + 22) g10 g13 := a11.tr K11 (Nat.le_refl _) (xk (by decide))
  have K9 : Sm (x + 1) (x + 17) g9 g13 := a10.tr K10 (Nat.le_refl _) (xk (by decide))
  have K8 : Sm (x + 1) (x + 12) g8 g13 := a9.tr K9 (Nat.le_refl _) (xk (by decide))
  have K7 : Sm (x + 1) (x + 12) g7 g13 := a8.tr K8 (Nat.le_refl _) (xk (by decide))
  have K6 : Sm (x + 1) (x + 12) g6 g13 := a7.tr K7 (Nat.le_refl _) (xk (by decide))
  have K5 : Sm (x + 1) (x + 12) g5 g13 := a6.tr K6 (Nat.le_refl _) (xk (by decide))
  have K4 : Sm (x + 1) (x + 12) g4 g13 := a5.tr K5 (Nat.le_refl _) (xk (by decide))
  have K3 : Sm (x + 1) (x + 11) g3 g13 := a4.tr K4 (Nat.le_refl _) (xk (by decide))
  have K2 : Sm (x + 1) (x + 5) g2 g13 := a3.tr K3 (Nat.le_refl _) (xk (by decide))
  have K1 : Sm (x + 1) (x + 3) g1 g13 := a2.tr K2 (Nat.le_refl _) (xk (by decide))
  have zz1 := z1
  have zz2 : Sm 0 x g g2 := zz1.tr z2 (Nat.le_refl _) (Nat.le_refl _)
  have zz3 : Sm 0 x g g3 := zz2.tr z3 (Nat.le_refl _) (Nat.le_refl _)
  have zz4 : Sm 0 x g g4 := zz3.tr z4 (Nat.le_refl _) (Nat.le_refl _)
  have zz5 : Sm 0 x g g5 := zz4.tr z5 (Nat.le_refl _) (Nat.le_refl _)
  have zz6 : Sm 0 x g g6 := zz5.tr z6 (Nat.le_refl _) (Nat.le_refl _)
  have zz7 : Sm 0 x g g7 := zz6.tr z7 (Nat.le_refl _) (Nat.le_refl _)
  have zz8 : Sm 0 x g g8 := zz7.tr z8 (Nat.le_refl _) (Nat.le_refl _)
  have zz9 : Sm 0 x g g9 := zz8.tr z9 (Nat.le_refl _) (Nat.le_refl _)
  have zz10 : Sm 0 x g g10 := zz9.tr z10 (Nat.le_refl _) (Nat.le_refl _)
  have zz11 : Sm 0 x g g11 := zz10.tr z11 (Nat.le_refl _) (Nat.le_refl _)
  have zz12 : Sm 0 x g g12 := zz11.tr z12 (Nat.le_refl _) (Nat.le_refl _)
  have zz13 : Sm 0 x g g13 := zz12.tr z13 (Nat.le_refl _) (Nat.le_refl _)
  have A1 : g13.1 x = (10, 13) := by rw [c13, c12, c11, c10, c9, c8, c7, c6, c5, c4, c3, c2, c1]; exact k0
  have T : TpC g13 x b0 0 0 := TpC.sm (h := h1) ⟨q1.1, q1.2.1, q1.2.2.1, q1.2.2.2.1, q1.2.2.2.2.1, ⟨by decide, by decide⟩, fun j _ => ⟨b0_lt j, by rw [q1.2.2.2.2.2]; rfl⟩⟩ (t1.tr K1 (xk (by decide)) (xk (by decide)))
  have D : TdS g13 x := TdS.sm (h := h2) q2 (t2.tr K2 (xk (by decide)) (xk (by decide)))
  have M : MtS g13 x := MtS.sm (h := h3) q3 (t3.tr K3 (xk (by decide)) (xk (by decide)))
  have R : RdS g13 x := rd_mk (h := h9) (h2 := hh9) (h3 := h10) q9 ((u9.tr t9 (xk (by decide)) (xk (by decide))).tr K9 (xk (by decide)) (xk (by decide))) p9 ((t9.tr K9 (xk (by decide)) (xk (by decide))).sub (xk (by decide)) (xk (by decide))) q10 (t10.tr K10 (xk (by decide)) (xk (by decide)))
  have e11 : g13.1 (x + 11) = (106, 12) := by rw [((t4.tr K4 (xk (by decide)) (xk (by decide))) (x + 11) (Nat.le_refl _) (Nat.lt_succ_self _)).1]; exact q4
  have L : LwN g13 (x + 22) := LwN.sm (h := h11) q11 ((u11.tr t11 (xk (by decide)) (xk (by decide))).tr K11 (xk (by decide)) (xk (by decide)))
  have V1 : VlyAt g13 (x + 27) A0 (x + 22) := VlyAt.sm (h := hh11) p11 ((t11.tr K11 (xk (by decide)) (xk (by decide))).sub (lo' := x + 27) (hi' := x + 38) (xk (by decide)) (xk (by decide)))
  have V2 : VlyAt g13 (x + 38) A0 (x + 22) := VlyAt.sm (h := h12) q12 (t12.tr K12 (xk (by decide)) (xk (by decide)))
  have V3 : VlyAt g13 (x + 49) A0 (x + 22) := VlyAt.sm (h := h13) q13 (t13.tr K13 (xk (by decide)) (xk (by decide)))
  refine e_Gr_init_142 hl _ _ _ _ _ _ ?_
  exact g_loop (g := g) hl hx (fun h' S Q hn s => ⟨rfl, ⟨s, hn⟩, g_ct hl S Q hn pa⟩) 0 (by decide) g13 ⟨⟨A1, (by rw [f13 0 (by decide), f12 0 (by decide), f11 0 (by decide), f10 0 (by decide), f9 0 (by decide), f8 0 (by decide), f7 0 (by decide), f6 0 (by decide), f5 0 (by decide), f4 0 (by decide), f3 0 (by decide), f2 0 (by decide)]; exact w1), (by rw [f13 1 (by decide), f12 1 (by decide), f11 1 (by decide), f10 1 (by decide)]; exact w9), (by rw [f13 2 (by decide), f12 2 (by decide), f11 2 (by decide)]; exact w10), (by rw [f13 3 (by decide), f12 3 (by decide), f11 3 (by decide), f10 3 (by decide), f9 3 (by decide), f8 3 (by decide), f7 3 (by decide), f6 3 (by decide), f5 3 (by decide), f4 3 (by decide), f3 3 (by decide)]; exact w2), (by rw [f13 4 (by decide), f12 4 (by decide), f11 4 (by decide), f10 4 (by decide), f9 4 (by decide), f8 4 (by decide), f7 4 (by decide), f6 4 (by decide), f5 4 (by decide), f4 4 (by decide)]; exact w3), (by rw [f13 5 (by decide), f12 5 (by decide)]; exact w11), (by rw [f13 6 (by decide)]; exact w12), (by exact w13), (by rw [f13 8 (by decide), f12 8 (by decide), f11 8 (by decide), f10 8 (by decide), f9 8 (by decide), f8 8 (by decide), f7 8 (by decide), f6 8 (by decide), f5 8 (by decide)]; exact w4)⟩, ⟨(by rw [f13 9 (by decide), f12 9 (by decide), f11 9 (by decide), f10 9 (by decide), f9 9 (by decide), f8 9 (by decide), f7 9 (by decide), f6 9 (by decide)]; exact w5), (by rw [f13 10 (by decide), f12 10 (by decide), f11 10 (by decide), f10 10 (by decide), f9 10 (by decide), f8 10 (by decide), f7 10 (by decide)]; exact w6), (by rw [f13 11 (by decide), f12 11 (by decide), f11 11 (by decide), f10 11 (by decide), f9 11 (by decide), f8 11 (by decide)]; exact w7), (by rw [f13 12 (by decide), f12 12 (by decide), f11 12 (by decide), f10 12 (by decide), f9 12 (by decide)]; exact w8)⟩, ⟨T, D, M, R⟩, e11, L, V1, V2, V3⟩ (fun i hi => absurd hi (Nat.not_lt_zero i)) n13 zz13
end GCT
