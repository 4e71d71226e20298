/-! ===== where both begin ===== -/
theorem A0_wf : Wf A0 := by
  have p0 : nP A0 = 0 := rfl
  have t0 : nT A0 = 0 := rfl
  refine ⟨⟨rfl, by rw [p0]; decide, rfl, by rw [t0]; decide⟩, fun p hp => absurd hp (by rw [p0]; omega), fun p hp => absurd hp (by rw [p0]; omega), fun t ht => absurd ht (by rw [t0]; omega), fun t u ht => absurd ht (by rw [t0]; omega), ⟨0, by decide, rfl⟩, ⟨0, by decide, rfl⟩⟩
theorem A0_rel : WRel A0 (fun j => if j = 8 then 1 else if j = 5 then 2 else 0) := fun k j hd => by
  have z : k ≠ 0 → A0 k j = 0 := fun hk => by show (if k = 0 ∧ j = 4 then (2 : Int32) else if k = 0 ∧ j = 5 then 1 else 0) = 0; rw [if_neg (fun z => hk z.1), if_neg (fun z => hk z.1)]
  rcases ad_cases hd with ⟨rfl, h, -⟩ | ⟨h1, h2, h3, h4⟩ | ⟨h1, h2, h3, h4⟩ | ⟨h1, h2, h3, h4⟩
  · obtain rfl | rfl | rfl | rfl | rfl | rfl | rfl | rfl : j = 0 ∨ j = 1 ∨ j = 2 ∨ j = 3 ∨ j = 4 ∨ j = 5 ∨ j = 6 ∨ j = 7 := by omega
    all_goals rfl
  all_goals rw [z (by omega)]; show (0 : Int32) = if ad k j = 8 then 1 else if ad k j = 5 then 2 else 0; rw [if_neg (by omega), if_neg (by omega)]
theorem m_start {G : Gx} {h : Hp} {m : Nat} (hl : G.1.stackTraces = false) (S : ModSh h m) (w1 : ∀ j, h.2.1 (m + 1) j = .int (if j = 8 then 1 else if j = 5 then 2 else 0)) (w5 : ∀ j, h.2.1 (m + 5) j = .int 0) (w6 : ∀ j, h.2.1 (m + 6) j = .int 0) (u : ∀ j, j = 0 ∨ j = 6 ∨ j = 7 ∨ j = 9 ∨ j = 10 ∨ j = 11 ∨ j = 12 ∨ j = 13 ∨ j = 16 → h.2.1 m j = .int 0) (v14 : h.2.1 m 14 = .int (-1)) (pa : Nat → Vs) : MT G h m A0 (fun _ _ _ => 0) (-1) none pa 0 b0 0 (-1) := by
  refine ⟨⟨⟨S, _, fun j _ => w1 j, A0_rel⟩, ⟨fun h' e A W _ p k _ _ => ?_, 0, 0, w1 3, w1 394, rfl⟩, u 6 (by omega), ⟨by decide, u 7 (by omega)⟩, fun j _ => ⟨0, w5 j⟩, fun i hi => absurd hi (by omega)⟩, ⟨0, S.1.1, S.2.2.2.2.2.2.1, S.1.2.2.2.2.2.2.1, u 9 (by omega), u 11 (by omega), ⟨by decide, by decide⟩, fun j _ => ⟨b0_lt j, w6 j⟩⟩, v14⟩
  have k1 : (h'.1 m).1 = 11 := by rw [W.1.1.1]
  have c3 : h'.2.1 (m + 1) 3 = .int 0 := by rw [e 3 (by omega)]; exact w1 3
  exact en_Mo_sumOf h' _ _ _ _ (e_Mo_sumOf_0 hl h' _ _ _ _ (e_Mo_sumOf_5 hl h' _ _ _ _ _ _ ⟨m + 1, ⟨k1, W.1.1.2.1⟩, 0, aI_of (i := 3) W.1.2.1 (by decide) (by decide) c3, fun _ => ⟨rfl, W, Fs.rf⟩, fun c => absurd c (by decide)⟩))
