/-! ===== the reference's world against the abstract valley ===== -/
def ad (k j : Nat) : Nat := if k = 0 then (match j with | 0 => 0 | 1 => 1 | 2 => 6 | 3 => 4 | 4 => 5 | 5 => 8 | 6 => 2 | _ => 7) else if k ≤ 5 then 9 + 5 * j + (k - 1) else if k ≤ 10 then 44 + 5 * j + (k - 6) else 94 + 5 * j + (k - 20)
def dom (k j : Nat) : Prop := (k = 0 ∧ j < 8) ∨ (1 ≤ k ∧ k ≤ 5 ∧ j < 7) ∨ (6 ≤ k ∧ k ≤ 10 ∧ j < 10) ∨ (20 ≤ k ∧ k ≤ 24 ∧ j < 60)
def WRel (A : Vs) (w : Nat → Int32) : Prop := ∀ k j, dom k j → A k j = w (ad k j)
def ModSh (h : Hp) (m : Nat) : Prop :=
  (h.1 m = (11, 25) ∧ h.2.1 m 1 = .ref (m + 1) ∧ h.2.1 m 2 = .ref (m + 2) ∧ h.2.1 m 3 = .ref (m + 3) ∧ h.2.1 m 4 = .ref (m + 4) ∧ h.2.1 m 5 = .ref (m + 5) ∧ h.2.1 m 8 = .ref (m + 6) ∧ h.2.1 m 15 = .ref (m + 7) ∧ h.2.1 m 17 = .ref (m + 8) ∧ h.2.1 m 18 = .ref (m + 9) ∧ h.2.1 m 19 = .ref (m + 10) ∧ h.2.1 m 20 = .ref (m + 11) ∧ h.2.1 m 21 = .ref (m + 12) ∧ h.2.1 m 22 = .ref (m + 13) ∧ h.2.1 m 23 = .ref (m + 14) ∧ h.2.1 m 24 = .ref (m + 15)) ∧
  (h.1 (m + 1) = (101, 2092) ∧ h.1 (m + 2) = (101, 1243) ∧ h.1 (m + 3) = (101, 1243) ∧ h.1 (m + 4) = (101, 394) ∧ h.1 (m + 5) = (101, 4728) ∧ h.1 (m + 6) = (103, 400) ∧ h.1 (m + 7) = (101, 5) ∧ h.1 (m + 8) = (101, 400) ∧ h.1 (m + 9) = (101, 7) ∧ h.1 (m + 10) = (101, 7) ∧ h.1 (m + 11) = (101, 7) ∧ h.1 (m + 12) = (101, 8192) ∧ h.1 (m + 13) = (101, 7) ∧ h.1 (m + 14) = (102, 100) ∧ h.1 (m + 15) = (101, 128))
def WldAt (h : Hp) (m : Nat) (A : Vs) : Prop := ModSh h m ∧ ∃ w : Nat → Int32, (∀ j, j < 2092 → h.2.1 (m + 1) j = .int (w j)) ∧ WRel A w
theorem ad_lt {k j : Nat} (h : dom k j) : ad k j < 394 := by
  unfold ad
  rcases h with ⟨rfl, h⟩ | ⟨h1, h2, h3⟩ | ⟨h1, h2, h3⟩ | ⟨h1, h2, h3⟩
  · rw [if_pos rfl]
    have : j = 0 ∨ j = 1 ∨ j = 2 ∨ j = 3 ∨ j = 4 ∨ j = 5 ∨ j = 6 ∨ j = 7 := by omega
    rcases this with rfl | rfl | rfl | rfl | rfl | rfl | rfl | rfl <;> decide
  · rw [if_neg (by omega), if_pos h2]; omega
  · rw [if_neg (by omega), if_neg (by omega), if_pos h2]; omega
  · rw [if_neg (by omega), if_neg (by omega), if_neg (by omega)]; omega
section MO1
variable {G : Gx} {h : Hp} {m : Nat} {A : Vs}
theorem WldAt.kd (W : WldAt h m A) : (h.1 m).1 = 11 := by rw [W.1.1.1]
theorem WldAt.r1 (W : WldAt h m A) : fR h 11 m 1 (m + 1) := ⟨W.kd, W.1.1.2.1⟩
theorem WldAt.at (W : WldAt h m A) {k j n : Nat} (hd : dom k j) (hn : ad k j = n) : aI h 101 (m + 1) (nI n) (A k j) := by
  obtain ⟨S, w, h1, h2⟩ := W
  have hl := ad_lt hd
  rw [hn] at hl
  refine aI_of S.2.1 (by omega) (by decide) ?_
  rw [h1 n (by omega), h2 k j hd, hn]
theorem n95 (p k : Nat) : (9 : Int32) + 5 * nI p + nI k = nI (9 + 5 * p + k) := by rw [show (9 : Int32) = nI 9 from rfl, show (5 : Int32) = nI 5 from rfl, pk_mul, nI_add, nI_add]
theorem n445 (p k : Nat) : (44 : Int32) + 5 * nI p + nI k = nI (44 + 5 * p + k) := by rw [show (44 : Int32) = nI 44 from rfl, show (5 : Int32) = nI 5 from rfl, pk_mul, nI_add, nI_add]
theorem o_personAt (hl : G.1.stackTraces = false) (p k : Int32) : EvI G m_Mo_personAt [.int p, .int k] h (9 + 5 * p + k) := en_Mo_personAt h _ p k (e_Mo_personAt_0 hl h _ p k ⟨rfl, rfl⟩)
theorem o_thingAt (hl : G.1.stackTraces = false) (p k : Int32) : EvI G m_Mo_thingAt [.int p, .int k] h (44 + 5 * p + k) := en_Mo_thingAt h _ p k (e_Mo_thingAt_0 hl h _ p k ⟨rfl, rfl⟩)
theorem o_in (hl : G.1.stackTraces = false) (x a b : Int32) : EvI G m_Mo_in [.int x, .int a, .int b] h (if x < a then 0 else if b < x then 0 else 1) :=
  en_Mo_in h _ x a b (e_Mo_in_0 hl h _ x a b ⟨fun c => ⟨by rw [if_pos c], rfl⟩, fun c => ⟨fun d => ⟨by rw [if_neg c, if_pos d], rfl⟩, fun d => ⟨by rw [if_neg c, if_neg d], rfl⟩⟩⟩)
theorem o_has (hl : G.1.stackTraces = false) (s k : Int32) : EvI G m_Mo_has [.int s, .int k] h (if (s >>> (k &&& 31)) &&& 1 = 1 then 1 else 0) :=
  en_Mo_has h _ s k (e_Mo_has_0 hl h _ s k ⟨fun c => ⟨by rw [if_neg c], rfl⟩, fun c => ⟨by rw [if_pos c], rfl⟩⟩)
theorem o_people (hl : G.1.stackTraces = false) (W : WldAt h m A) : EvI G m_Mo_people [.ref m] h (A 0 0) := en_Mo_people h _ m (e_Mo_people_0 hl h _ m ⟨_, W.r1, _, W.at (k := 0) (j := 0) (Or.inl ⟨rfl, by decide⟩) rfl, rfl, rfl⟩)
theorem o_things (hl : G.1.stackTraces = false) (W : WldAt h m A) : EvI G m_Mo_things [.ref m] h (A 0 1) := en_Mo_things h _ m (e_Mo_things_0 hl h _ m ⟨_, W.r1, _, W.at (k := 0) (j := 1) (Or.inl ⟨rfl, by decide⟩) rfl, rfl, rfl⟩)
theorem o_of (hl : G.1.stackTraces = false) (W : WldAt h m A) {p f : Nat} (hp : p < 7) (hf : f < 5) : EvI G m_Mo_of [.ref m, .int (nI p), .int (nI f)] h (A (1 + f) p) :=
  en_Mo_of h _ m _ _ (e_Mo_of_0 hl h _ m _ _ ⟨_, W.r1, _, o_personAt hl _ _, _, by rw [n95]; exact W.at (k := 1 + f) (j := p) (Or.inr (Or.inl ⟨by omega, by omega, hp⟩)) (by unfold ad; rw [if_neg (by omega), if_pos (by omega)]; omega), rfl, rfl⟩)
theorem o_ofThing (hl : G.1.stackTraces = false) (W : WldAt h m A) {t f : Nat} (ht : t < 10) (hf : f < 5) : EvI G m_Mo_ofThing [.ref m, .int (nI t), .int (nI f)] h (A (6 + f) t) :=
  en_Mo_ofThing h _ m _ _ (e_Mo_ofThing_0 hl h _ m _ _ ⟨_, W.r1, _, o_thingAt hl _ _, _, by rw [n445]; exact W.at (k := 6 + f) (j := t) (Or.inr (Or.inr (Or.inl ⟨by omega, by omega, ht⟩))) (by unfold ad; rw [if_neg (by omega), if_neg (by omega), if_pos (by omega)]; omega), rfl, rfl⟩)
theorem o_lives (hl : G.1.stackTraces = false) (W : WldAt h m A) {p : Nat} (hp : p < 7) : EvI G m_Mo_lives [.ref m, .int (nI p)] h (if A 5 p = 1 then 1 else 0) :=
  en_Mo_lives h _ m _ (e_Mo_lives_0 hl h _ m _ ⟨W.kd, _, o_of hl W hp (f := 4) (by decide), fun c => ⟨by rw [if_neg c], rfl⟩, fun c => ⟨by rw [if_pos c], rfl⟩⟩)
theorem o_isWith (hl : G.1.stackTraces = false) (W : WldAt h m A) {t : Nat} (ht : t < 10) (s p : Int32) : EvI G m_Mo_isWith [.ref m, .int (nI t), .int s, .int p] h (if A 9 t = s then (if A 10 t = p then 1 else 0) else 0) :=
  en_Mo_isWith h _ m _ _ _ (e_Mo_isWith_0 hl h _ m _ _ _ ⟨W.kd, _, o_ofThing hl W ht (f := 3) (by decide), fun c => ⟨by rw [if_neg c], rfl⟩, fun c => ⟨W.kd, _, o_ofThing hl W ht (f := 4) (by decide), fun d => ⟨by rw [if_pos c, if_neg d], rfl⟩, fun d => ⟨by rw [if_pos c, if_pos d], rfl⟩⟩⟩)
theorem o_ownedBy (hl : G.1.stackTraces = false) (W : WldAt h m A) (B : Bd A) (p : Int32) : EvI G m_Mo_ownedBy [.ref m, .int p] h (ownF A p) := by
  refine en_Mo_ownedBy h _ m p (e_Mo_ownedBy_0 hl h _ m p ?_)
  refine for_up (Q := fun t => Ev G m_Mo_ownedBy 4 [.ref m, .int p, .int (lp (fun t b => if A 8 t = p then b ||| sh1 t else b) t 0), .int (nI t)] [] h 0 0 _) (n := nT A) ?_ (fun t ht ih => ?_) 0 (Nat.zero_le _)
  · exact e_Mo_ownedBy_4 hl h _ m p _ _ ⟨W.kd, _, o_things hl W, fun _ => ⟨rfl, rfl⟩, fun c => absurd B.end_T c⟩
  · refine e_Mo_ownedBy_4 hl h _ m p _ _ ⟨W.kd, _, o_things hl W, fun c => absurd c (B.in_T ht), fun _ => ⟨W.kd, _, o_ofThing hl W (B.T10 ht) (f := 2) (by decide), fun c => ?_, fun c => ?_⟩⟩
    · rw [nI_1, Int32.or_zero]; simp only [lp] at ih; rw [if_neg c] at ih; exact ih
    · rw [nI_1]; simp only [lp] at ih; rw [if_pos c] at ih; exact ih
theorem o_onClothOf (hl : G.1.stackTraces = false) (W : WldAt h m A) (B : Bd A) (p : Int32) : EvI G m_Mo_onClothOf [.ref m, .int p] h (clothF A p) := by
  refine en_Mo_onClothOf h _ m p (e_Mo_onClothOf_0 hl h _ m p ?_)
  refine for_up (Q := fun t => Ev G m_Mo_onClothOf 4 [.ref m, .int p, .int (lp (fun t b => if A 9 t = 2 ∧ A 10 t = p then b ||| sh1 t else b) t 0), .int (nI t)] [] h 0 0 _) (n := nT A) ?_ (fun t ht ih => ?_) 0 (Nat.zero_le _)
  · exact e_Mo_onClothOf_4 hl h _ m p _ _ ⟨W.kd, _, o_things hl W, fun _ => ⟨rfl, rfl⟩, fun c => absurd B.end_T c⟩
  · refine e_Mo_onClothOf_4 hl h _ m p _ _ ⟨W.kd, _, o_things hl W, fun c => absurd c (B.in_T ht), fun _ => ⟨W.kd, _, o_isWith hl W (B.T10 ht) _ _, fun c => ?_, fun c => ?_⟩⟩
    · rw [nI_1, Int32.or_zero]
      simp only [lp] at ih
      rw [if_neg (fun z => by rw [if_pos z.1, if_pos z.2] at c; exact absurd c (by decide))] at ih
      exact ih
    · rw [nI_1]
      simp only [lp] at ih
      rw [if_pos (by
        by_cases d : A 9 t = 2
        · by_cases e : A 10 t = p
          · exact ⟨d, e⟩
          · rw [if_pos d, if_neg e] at c; exact absurd rfl c
        · rw [if_neg d] at c; exact absurd rfl c)] at ih
      exact ih
end MO1
