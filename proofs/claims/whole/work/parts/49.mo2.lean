/-! ===== the reference: what it changes in its world ===== -/
def mW (m : Nat) : Nat → Nat → Prop := fun a j => (a = m + 1 ∧ j < 394 ∧ j ≠ 3) ∨ a = m + 8
def mpost (m : Nat) (h : Hp) (A : Vs) : Res → Hp → Prop := fun o h' => o = .inl none ∧ WldAt h' m A ∧ Fs (mW m) h h'
def mpostI (m : Nat) (h : Hp) (A : Vs) (x : Int32) : Res → Hp → Prop := fun o h' => o = .inl (some (.int x)) ∧ WldAt h' m A ∧ Fs (mW m) h h'
theorem ad_cases {k j : Nat} (h : dom k j) : (k = 0 ∧ j < 8 ∧ ad k j < 9 ∧ ad k j ≠ 3) ∨ (1 ≤ k ∧ k ≤ 5 ∧ j < 7 ∧ ad k j = 9 + 5 * j + (k - 1)) ∨ (6 ≤ k ∧ k ≤ 10 ∧ j < 10 ∧ ad k j = 44 + 5 * j + (k - 6)) ∨ (20 ≤ k ∧ k ≤ 24 ∧ j < 60 ∧ ad k j = 94 + 5 * j + (k - 20)) := by
  rcases h with ⟨rfl, h⟩ | ⟨h1, h2, h3⟩ | ⟨h1, h2, h3⟩ | ⟨h1, h2, h3⟩
  · refine Or.inl ⟨rfl, h, ?_⟩
    have : j = 0 ∨ j = 1 ∨ j = 2 ∨ j = 3 ∨ j = 4 ∨ j = 5 ∨ j = 6 ∨ j = 7 := by omega
    rcases this with rfl | rfl | rfl | rfl | rfl | rfl | rfl | rfl <;> decide
  · exact Or.inr (Or.inl ⟨h1, h2, h3, by unfold ad; rw [if_neg (by omega), if_pos h2]⟩)
  · exact Or.inr (Or.inr (Or.inl ⟨h1, h2, h3, by unfold ad; rw [if_neg (by omega), if_neg (by omega), if_pos h2]⟩))
  · exact Or.inr (Or.inr (Or.inr ⟨h1, h2, h3, by unfold ad; rw [if_neg (by omega), if_neg (by omega), if_neg (by omega)]⟩))
theorem ad0_inj : ∀ j, j < 8 → ∀ i, i < 8 → ad 0 j = ad 0 i → j = i := by decide
theorem ad_inj {k j k' j' : Nat} (h1 : dom k j) (h2 : dom k' j') (e : ad k' j' = ad k j) : k' = k ∧ j' = j := by
  rcases ad_cases h1 with ⟨rfl, a2, a3, a4⟩ | ⟨a1, a2, a3, a4⟩ | ⟨a1, a2, a3, a4⟩ | ⟨a1, a2, a3, a4⟩ <;> rcases ad_cases h2 with ⟨rfl, b2, b3, b4⟩ | ⟨b1, b2, b3, b4⟩ | ⟨b1, b2, b3, b4⟩ | ⟨b1, b2, b3, b4⟩
  · exact ⟨rfl, ad0_inj _ b2 _ a2 e⟩
  all_goals omega
section MO2
variable {G : Gx} {h h' : Hp} {m : Nat} {A : Vs} {T : Tt}
theorem ModSh.keep (S : ModSh h m) (e1 : ∀ a, m ≤ a → a ≤ m + 15 → h'.1 a = h.1 a) (e2 : ∀ j, ((1 ≤ j ∧ j ≤ 5) ∨ j = 8 ∨ j = 15 ∨ (17 ≤ j ∧ j ≤ 24)) → h'.2.1 m j = h.2.1 m j) : ModSh h' m := by
  obtain ⟨⟨S0, S1, S2, S3, S4, S5, S6, S7, S8, S9, S10, S11, S12, S13, S14, S15⟩, T1, T2, T3, T4, T5, T6, T7, T8, T9, T10, T11, T12, T13, T14, T15⟩ := S
  refine ⟨⟨?_, ?_, ?_, ?_, ?_, ?_, ?_, ?_, ?_, ?_, ?_, ?_, ?_, ?_, ?_, ?_⟩, ?_, ?_, ?_, ?_, ?_, ?_, ?_, ?_, ?_, ?_, ?_, ?_, ?_, ?_, ?_⟩
  · rw [e1 m (by omega) (by omega)]; exact S0
  · rw [e2 1 (by omega)]; exact S1
  · rw [e2 2 (by omega)]; exact S2
  · rw [e2 3 (by omega)]; exact S3
  · rw [e2 4 (by omega)]; exact S4
  · rw [e2 5 (by omega)]; exact S5
  · rw [e2 8 (by omega)]; exact S6
  · rw [e2 15 (by omega)]; exact S7
  · rw [e2 17 (by omega)]; exact S8
  · rw [e2 18 (by omega)]; exact S9
  · rw [e2 19 (by omega)]; exact S10
  · rw [e2 20 (by omega)]; exact S11
  · rw [e2 21 (by omega)]; exact S12
  · rw [e2 22 (by omega)]; exact S13
  · rw [e2 23 (by omega)]; exact S14
  · rw [e2 24 (by omega)]; exact S15
  · rw [e1 (m + 1) (by omega) (by omega)]; exact T1
  · rw [e1 (m + 2) (by omega) (by omega)]; exact T2
  · rw [e1 (m + 3) (by omega) (by omega)]; exact T3
  · rw [e1 (m + 4) (by omega) (by omega)]; exact T4
  · rw [e1 (m + 5) (by omega) (by omega)]; exact T5
  · rw [e1 (m + 6) (by omega) (by omega)]; exact T6
  · rw [e1 (m + 7) (by omega) (by omega)]; exact T7
  · rw [e1 (m + 8) (by omega) (by omega)]; exact T8
  · rw [e1 (m + 9) (by omega) (by omega)]; exact T9
  · rw [e1 (m + 10) (by omega) (by omega)]; exact T10
  · rw [e1 (m + 11) (by omega) (by omega)]; exact T11
  · rw [e1 (m + 12) (by omega) (by omega)]; exact T12
  · rw [e1 (m + 13) (by omega) (by omega)]; exact T13
  · rw [e1 (m + 14) (by omega) (by omega)]; exact T14
  · rw [e1 (m + 15) (by omega) (by omega)]; exact T15
theorem WldAt.keep (W : WldAt h m A) (e1 : ∀ a, m ≤ a → a ≤ m + 15 → h'.1 a = h.1 a) (e2 : ∀ j, ((1 ≤ j ∧ j ≤ 5) ∨ j = 8 ∨ j = 15 ∨ (17 ≤ j ∧ j ≤ 24)) → h'.2.1 m j = h.2.1 m j) (e3 : ∀ j, j < 2092 → h'.2.1 (m + 1) j = h.2.1 (m + 1) j) : WldAt h' m A := by
  obtain ⟨S, w, h1, h2⟩ := W
  exact ⟨S.keep e1 e2, w, fun j hj => by rw [e3 j hj]; exact h1 j hj, h2⟩
theorem WldAt.keepF {P : Nat → Nat → Prop} (W : WldAt h m A) (x : Fs P h h') (n1 : ∀ j, ((1 ≤ j ∧ j ≤ 5) ∨ j = 8 ∨ j = 15 ∨ (17 ≤ j ∧ j ≤ 24)) → ¬ P m j) (n2 : ∀ j, j < 2092 → ¬ P (m + 1) j) : WldAt h' m A :=
  W.keep (fun a _ _ => by rw [x.1]) (fun j hj => x.2.2 m j (n1 j hj)) (fun j hj => x.2.2 (m + 1) j (n2 j hj))
/-- the world's cells -/
def WAt (h : Hp) (m : Nat) (w : Nat → Int32) : Prop := ModSh h m ∧ ∀ j, j < 2092 → h.2.1 (m + 1) j = .int (w j)
theorem WAt.set {w : Nat → Int32} (W : WAt h m w) {i : Nat} {x : Int32} : WAt (hset h (m + 1) i (.int x)) m (fun j => if j = i then x else w j) := by
  refine ⟨W.1.keep (fun _ _ _ => rfl) (fun j _ => hs_ne (by omega)), fun j hj => ?_⟩
  show _ = Value.int (if j = i then x else w j)
  by_cases z : j = i
  · subst z; rw [hs_eq, if_pos rfl]
  · rw [hs_ne (fun q => z q.2), if_neg z]; exact W.2 j hj
theorem WAt.kd {w : Nat → Int32} (W : WAt h m w) : (h.1 m).1 = 11 := by rw [W.1.1.1]
theorem WAt.r1 {w : Nat → Int32} (W : WAt h m w) : fR h 11 m 1 (m + 1) := ⟨W.kd, W.1.1.2.1⟩
theorem WAt.rd {w : Nat → Int32} (W : WAt h m w) {n : Nat} (hn : n < 2092) : aI h 101 (m + 1) (nI n) (w n) := aI_of W.1.2.1 hn (by decide) (W.2 n hn)
theorem WAt.wr {w : Nat → Int32} (W : WAt h m w) (hm : G.n0 ≤ m) {n : Nat} (hn : n < 2092) : aW G h 101 (m + 1) (nI n) := aW_of (by omega) W.1.2.1 hn (by decide)
theorem WldAt.wat (W : WldAt h m A) : ∃ w, WAt h m w ∧ WRel A w := by
  obtain ⟨S, w, h1, h2⟩ := W
  exact ⟨w, ⟨S, h1⟩, h2⟩
theorem WldAt.of {w : Nat → Int32} (W : WAt h m w) (R : WRel A w) : WldAt h m A := ⟨W.1, w, W.2, R⟩
theorem WldAt.wr (W : WldAt h m A) (hm : G.n0 ≤ m) {n : Nat} (hn : n < 2092) : aW G h 101 (m + 1) (nI n) := aW_of (by omega) W.1.2.1 hn (by decide)
theorem WldAt.set (W : WldAt h m A) {k j n : Nat} (hd : dom k j) (hn : ad k j = n) (x : Int32) : WldAt (hset h (m + 1) n (.int x)) m (up A k j x) := by
  obtain ⟨w, W1, R⟩ := W.wat
  refine WldAt.of W1.set (fun k' j' hd' => ?_)
  by_cases z : k' = k ∧ j' = j
  · obtain ⟨rfl, rfl⟩ := z; rw [up_same, if_pos hn]
  · rw [up_ne z, if_neg (fun q => z (ad_inj hd hd' (by rw [hn]; exact q)))]; exact R k' j' hd'
theorem d0 {j : Nat} (h : j < 8) : dom 0 j := Or.inl ⟨rfl, h⟩
theorem dP {k j : Nat} (h : 1 ≤ k ∧ k ≤ 5) (hj : j < 7) : dom k j := Or.inr (Or.inl ⟨h.1, h.2, hj⟩)
theorem dT {k j : Nat} (h : 6 ≤ k ∧ k ≤ 10) (hj : j < 10) : dom k j := Or.inr (Or.inr (Or.inl ⟨h.1, h.2, hj⟩))
theorem adP {f p : Nat} (h : f < 5) : ad (1 + f) p = 9 + 5 * p + f := by unfold ad; rw [if_neg (by omega), if_pos (by omega)]; omega
theorem adT {f t : Nat} (h : f < 5) : ad (6 + f) t = 44 + 5 * t + f := by unfold ad; rw [if_neg (by omega), if_neg (by omega), if_pos (by omega)]; omega
theorem o_pAt (hl : G.1.stackTraces = false) (p k : Nat) : EvI G m_Mo_personAt [.int (nI p), .int (nI k)] h (nI (9 + 5 * p + k)) := by rw [← n95]; exact o_personAt hl _ _
theorem o_tAt (hl : G.1.stackTraces = false) (p k : Nat) : EvI G m_Mo_thingAt [.int (nI p), .int (nI k)] h (nI (44 + 5 * p + k)) := by rw [← n445]; exact o_thingAt hl _ _
theorem mW_at {m n : Nat} (h : n < 394) (h3 : n ≠ 3) : mW m (m + 1) n := Or.inl ⟨rfl, h, h3⟩
theorem o_lies (hl : G.1.stackTraces = false) (hm : G.n0 ≤ m) (W : WldAt h m A) {t : Nat} (ht : t < 10) (w p : Int32) (hp : w = 0 → p = -1) : EvM G m_Mo_lies [.ref m, .int (nI t), .int w, .int p] h (mpost m h (mvA A t w p)) := by
  refine en_Mo_lies h _ m _ _ _ (e_Mo_lies_0 hl h _ m _ _ _ ⟨_, W.r1, _, o_tAt hl t 3, W.wr hm (by omega), ?_⟩)
  rw [nI_clamp (by omega)]
  have W1 := W.set (k := 6 + 3) (j := t) (dT (by omega) ht) (adT (by omega)) w
  have W2 := W1.set (k := 6 + 4) (j := t) (dT (by omega) ht) (adT (by omega)) p
  have F : ∀ x : Int32, Fs (mW m) h (hset (hset h (m + 1) (44 + 5 * t + 3) (.int w)) (m + 1) (44 + 5 * t + 4) (.int x)) := fun x => (Fs.rf.set (mW_at (by omega) (by omega))).set (mW_at (by omega) (by omega))
  refine e_Mo_lies_11 hl _ _ m _ _ _ ⟨_, W1.r1, _, o_tAt hl t 4, fun _ => ⟨W1.wr hm (by omega), ?_⟩, fun c => ⟨W1.wr hm (by omega), ?_⟩⟩
  · rw [nI_clamp (by omega)]; exact ⟨rfl, W2, F p⟩
  · rw [nI_clamp (by omega)]
    have e := hp c
    subst e
    exact ⟨rfl, W2, F (-1)⟩
theorem held_lp {A : Vs} (U : Un A) {p : Int32} : lp (fun t b => if A 9 t = 1 ∧ A 10 t = p then nI t else b) (nT A) (-1) = holdF A p := by
  have key : ∀ n, n ≤ nT A → (lp (fun t b => if A 9 t = 1 ∧ A 10 t = p then nI t else b) n (-1) = -1 ∧ ∀ u, u < n → ¬ (A 9 u = 1 ∧ A 10 u = p)) ∨ ∃ u, u < n ∧ lp (fun t b => if A 9 t = 1 ∧ A 10 t = p then nI t else b) n (-1) = nI u ∧ A 9 u = 1 ∧ A 10 u = p := by
    intro n
    induction n with
    | zero => intro _; exact Or.inl ⟨rfl, fun u hu => absurd hu (Nat.not_lt_zero _)⟩
    | succ n ih =>
      intro hn
      simp only [lp]
      by_cases c : A 9 n = 1 ∧ A 10 n = p
      · rw [if_pos c]; exact Or.inr ⟨n, by omega, rfl, c.1, c.2⟩
      · rw [if_neg c]
        rcases ih (by omega) with ⟨h1, h2⟩ | ⟨u, h1, h2, h3, h4⟩
        · refine Or.inl ⟨h1, fun u hu => ?_⟩
          by_cases z : u = n
          · subst z; exact c
          · exact h2 u (by omega)
        · exact Or.inr ⟨u, by omega, h2, h3, h4⟩
  rcases key (nT A) (Nat.le_refl _) with ⟨h1, h2⟩ | ⟨u, h1, h2, h3, h4⟩ <;> rcases holdF_spec A p with ⟨q1, q2⟩ | ⟨w, q1, q2, q3, q4⟩
  · rw [h1, q1]
  · exact absurd ⟨q3, q4⟩ (h2 w q1)
  · exact absurd ⟨h3, h4⟩ (q2 u h1)
  · rw [h2, q2, U u w h1 q1 h3 q3 (by rw [h4, q4])]
theorem with1 {a b c d : Int32} (x : (if a = b then (if c = d then (1 : Int32) else 0) else 0) = 0) : ¬ (a = b ∧ c = d) := fun z => by rw [if_pos z.1, if_pos z.2] at x; exact absurd x (by decide)
theorem with2 {a b c d : Int32} (x : ¬ (if a = b then (if c = d then (1 : Int32) else 0) else 0) = 0) : a = b ∧ c = d := by
  by_cases e : a = b
  · by_cases f : c = d
    · exact ⟨e, f⟩
    · rw [if_pos e, if_neg f] at x; exact absurd rfl x
  · rw [if_neg e] at x; exact absurd rfl x
theorem o_heldBy (hl : G.1.stackTraces = false) (W : WldAt h m A) (F : Wf A) (p : Int32) : EvI G m_Mo_heldBy [.ref m, .int p] h (holdF A p) := by
  have B := F.1
  rw [← held_lp F.2.2.2.2.1]
  refine en_Mo_heldBy h _ m p (e_Mo_heldBy_0 hl h _ m p ?_)
  refine for_up (Q := fun t => Ev G m_Mo_heldBy 4 [.ref m, .int p, .int (lp (fun t b => if A 9 t = 1 ∧ A 10 t = p then nI t else b) t (-1)), .int (nI t)] [] h 0 0 _) (n := nT A) ?_ (fun t ht ih => ?_) 0 (Nat.zero_le _)
  · exact e_Mo_heldBy_4 hl h _ m p _ _ ⟨W.kd, _, o_things hl W, fun _ => ⟨rfl, rfl⟩, fun c => absurd B.end_T c⟩
  · refine e_Mo_heldBy_4 hl h _ m p _ _ ⟨W.kd, _, o_things hl W, fun c => absurd c (B.in_T ht), fun _ => ⟨W.kd, _, o_isWith hl W (B.T10 ht) _ _, fun c => ?_, fun c => ?_⟩⟩
    · rw [nI_1]; simp only [lp] at ih; rw [if_neg (with1 c)] at ih; exact ih
    · rw [nI_1]; simp only [lp] at ih; rw [if_pos (with2 c)] at ih; exact ih
theorem has0 {s : Int32} {t : Nat} (c : (if (s >>> (nI t &&& 31)) &&& 1 = 1 then (1 : Int32) else 0) = 0) (ht : t < 32) : bit1 s t = 0 := by
  have := ite0 c
  have e := bit1_eq s ht
  unfold bit1 at e ⊢
  rw [e] at this ⊢
  split at this
  · exact absurd rfl this
  · rename_i q; rw [if_neg q]
theorem has1 {s : Int32} {t : Nat} (c : ¬ (if (s >>> (nI t &&& 31)) &&& 1 = 1 then (1 : Int32) else 0) = 0) : bit1 s t = 1 := ite1 c
theorem o_worthOf (hl : G.1.stackTraces = false) (W : WldAt h m A) (B : Bd A) (s : Int32) : EvI G m_Mo_worthOf [.ref m, .int s] h (worthF A s) := by
  refine en_Mo_worthOf h _ m s (e_Mo_worthOf_0 hl h _ m s ?_)
  refine for_up (Q := fun t => Ev G m_Mo_worthOf 4 [.ref m, .int s, .int (lp (fun t n => n + bit1 s t * A 6 t) t 0), .int (nI t)] [] h 0 0 _) (n := nT A) ?_ (fun t ht ih => ?_) 0 (Nat.zero_le _)
  · exact e_Mo_worthOf_4 hl h _ m s _ _ ⟨W.kd, _, o_things hl W, fun _ => ⟨rfl, rfl⟩, fun c => absurd B.end_T c⟩
  · refine e_Mo_worthOf_4 hl h _ m s _ _ ⟨W.kd, _, o_things hl W, fun c => absurd c (B.in_T ht), fun _ => ⟨_, o_has hl _ _, fun c => ?_, fun c => ⟨W.kd, _, o_ofThing hl W (B.T10 ht) (f := 0) (by decide), ?_⟩⟩⟩
    · rw [nI_1]; simp only [lp] at ih; rw [has0 c (by have := B.T10 ht; omega), Int32.zero_mul] at ih; exact ih
    · rw [nI_1]; simp only [lp] at ih; rw [has1 c, Int32.one_mul] at ih; exact ih
theorem o_allLiving (hl : G.1.stackTraces = false) (W : WldAt h m A) (B : Bd A) : EvI G m_Mo_allLiving [.ref m] h (flagF A 5) := by
  refine en_Mo_allLiving h _ m (e_Mo_allLiving_0 hl h _ m ?_)
  refine for_up (Q := fun t => Ev G m_Mo_allLiving 4 [.ref m, .int (lp (fun p b => if A 5 p = 1 then b ||| sh1 p else b) t 0), .int (nI t)] [] h 0 0 _) (n := nP A) ?_ (fun t ht ih => ?_) 0 (Nat.zero_le _)
  · exact e_Mo_allLiving_4 hl h _ m _ _ ⟨W.kd, _, o_people hl W, fun _ => ⟨rfl, rfl⟩, fun c => absurd B.end_P c⟩
  · refine e_Mo_allLiving_4 hl h _ m _ _ ⟨W.kd, _, o_people hl W, fun c => absurd c (B.in_P ht), fun _ => ⟨W.kd, _, o_lives hl W (B.P7 ht), fun c => ?_, fun c => ?_⟩⟩
    · rw [nI_1, Int32.or_zero]; simp only [lp] at ih; rw [if_neg (ite0 c)] at ih; exact ih
    · rw [nI_1]; simp only [lp] at ih; rw [if_pos (ite1 c)] at ih; exact ih
theorem o_succ (hl : G.1.stackTraces = false) (W : WldAt h m A) (F : Wf A) {p : Nat} (hp : p < nP A) : EvI G m_Mo_successorOf [.ref m, .int (nI p)] h (succF A p) := by
  have B := F.1
  have R := F.2.1
  have h7 := B.2.1
  refine en_Mo_successorOf h _ m _ (e_Mo_successorOf_0 hl h _ m _ ⟨W.kd, _, o_allLiving hl W B, othF A (nI p), by rw [← oth_eq B hp]; exact j_bitCount hl _, _, W.r1, _, W.at (k := 0) (j := 4) (d0 (by decide)) rfl, fun c => ⟨W.kd, _, o_of hl W (B.P7 hp) (f := 2) (by decide), ?_⟩, fun c => ⟨?_, rfl⟩⟩)
  · have hh : ∀ d k o, k + d = 7 → (o = -1 ∨ ∃ q, q < nP A ∧ o = nI q) → Ev G m_Mo_successorOf 33 [.ref m, .int (nI p), .int o, .int (nI k)] [] h 0 0 (fun o' h' => o' = .inl (some (.int (succG A (nI p) (d + 1) o))) ∧ h' = h) := by
      intro d
      induction d with
      | zero =>
        intro k o hk ho
        refine e_Mo_successorOf_33 hl h _ m _ _ _ ⟨fun _ => ⟨fun e => ⟨by rw [succG, if_pos e], rfl⟩, fun e => ⟨fun f => ⟨by rw [succG, if_neg e, if_neg (fun z => z.1 f)]; rfl, rfl⟩, fun f => ?_⟩⟩, fun c => absurd (by rw [show (7 : Int32) = nI 7 from rfl]; exact nI_le (by omega) (by omega)) c⟩
        rcases ho with ho | ⟨q, hq, ho⟩
        · exact absurd ho e
        · refine ⟨W.kd, _, by rw [ho]; exact o_lives hl W (B.P7 hq), fun g => ⟨?_, rfl⟩, fun g => ⟨?_, rfl⟩⟩
          · rw [succG, if_neg e, ho, nI_clamp (by omega), if_neg (fun z => ite0 g z.2)]; rfl
          · rw [succG, if_neg e, ho, nI_clamp (by omega), if_pos ⟨by rw [← ho]; exact f, ite1 g⟩]
      | succ d ih =>
        intro k o hk ho
        refine e_Mo_successorOf_33 hl h _ m _ _ _ ⟨fun c => absurd c (by rw [show (7 : Int32) = nI 7 from rfl]; exact nI_ge (by omega) (by omega)), fun _ => ⟨fun e => ⟨fun _ => ⟨by rw [succG, if_pos e], rfl⟩, fun f => absurd e f⟩, fun e => ?_⟩⟩
        rcases ho with ho | ⟨q, hq, ho⟩
        · exact absurd ho e
        · have hc : o.toNatClampNeg = q := by rw [ho]; exact nI_clamp (by omega)
          have nxt' : ¬ (o ≠ nI p ∧ A 5 q = 1) → Ev G m_Mo_successorOf 33 [.ref m, .int (nI p), .int (A 3 q), .int (nI k + 1)] [] h 0 0 (fun o' h' => o' = .inl (some (.int (succG A (nI p) (d + 1 + 1) o))) ∧ h' = h) := fun g => by
            rw [nI_1, succG, if_neg e, hc, if_neg g]
            exact ih (k + 1) (A 3 q) (by omega) (R q hq)
          refine ⟨fun f => ⟨W.kd, A 3 q, by rw [ho]; exact o_of hl W (B.P7 hq) (f := 2) (by decide), nxt' (fun z => z.1 f)⟩, fun f => ⟨W.kd, _, by rw [ho]; exact o_lives hl W (B.P7 hq), fun g => ⟨fun x => absurd x e, fun _ => ⟨fun x => absurd x f, fun _ => ⟨W.kd, _, by rw [ho]; exact o_lives hl W (B.P7 hq), fun x => absurd x g, fun _ => ⟨?_, rfl⟩⟩⟩⟩, fun g => ⟨W.kd, A 3 q, by rw [ho]; exact o_of hl W (B.P7 hq) (f := 2) (by decide), nxt' (fun z => ite0 g z.2)⟩⟩⟩
          rw [succG, if_neg e, hc, if_pos ⟨f, ite1 g⟩]
    have := hh 7 0 (A 3 p) rfl (R p hp)
    rw [show 7 + 1 = 8 from rfl, succG_more R h7 (nI p) (A 3 p) (R p hp) (by omega : nP A ≤ 8)] at this
    unfold succF
    rw [if_neg (Int32.not_lt.mpr c)]
    exact this
  · unfold succF; rw [if_pos (Int32.not_le.mp c)]
end MO2
