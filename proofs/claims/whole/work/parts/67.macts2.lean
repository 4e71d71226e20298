/-! ===== acts of the reference, the second half ===== -/
theorem hand_comm {A : Vs} {u w : Nat} {p q : Int32} (ne : u ≠ w) : up (mvA (up (mvA A u 1 q) 8 u q) w 1 p) 8 w p = up (mvA (up (mvA A w 1 p) 8 w p) u 1 q) 8 u q := by
  funext k j
  simp only [up, mvA]
  by_cases h1 : j = u
  · by_cases h2 : j = w
    · omega
    · simp [h1, show ¬ u = w from ne]
  · by_cases h2 : j = w
    · simp [h2, show ¬ w = u from fun z => ne z.symm]
    · simp [h1, h2]
theorem swap_comm {A : Vs} (F : Wf A) {p q : Nat} (hp : p < nP A) (hq : q < nP A) (ne : p ≠ q) : handA (handA A (holdF A (nI p)) (nI q)) (holdF A (nI q)) (nI p) = handA (handA A (holdF A (nI q)) (nI p)) (holdF A (nI p)) (nI q) := by
  have h7 := F.1.2.1
  have h10 := F.1.2.2.2
  rcases holdF_spec A (nI p) with ⟨e1, -⟩ | ⟨u, hu, e1, u1, u2⟩
  · rw [e1]; unfold handA; rw [if_pos rfl, if_pos rfl]
  · rcases holdF_spec A (nI q) with ⟨e2, -⟩ | ⟨w, hw, e2, w1, w2⟩
    · rw [e2]; unfold handA; rw [if_pos rfl, if_pos rfl]
    · have : u ≠ w := fun z => by
        rw [z, w2] at u2; exact ne ((nI_eq (by omega) (by omega)).mp u2).symm
      rw [e1, e2]
      unfold handA
      rw [if_neg (m1_ne (by omega)), if_neg (m1_ne (by omega)), if_neg (m1_ne (by omega)), if_neg (m1_ne (by omega)), nI_clamp (show u < 2 ^ 31 by omega), nI_clamp (show w < 2 ^ 31 by omega)]
      exact hand_comm this
theorem not_held {A : Vs} (F : Wf A) {p : Int32} (e : holdF A p = -1) : ∀ u, u < nT A → A 9 u = 1 → A 10 u ≠ p := fun u hu h1 h2 => by
  rw [hold_of F hu h1 h2] at e
  exact m1_ne (by have := F.1.2.2.2; omega) e
theorem Wf.hand {A : Vs} (F : Wf A) {t : Int32} (ht : t = -1 ∨ ∃ k, k < nT A ∧ t = nI k) {p : Nat} (hp : p < nP A) (lv : A 5 p = 1) (e : holdF A (nI p) = -1) : Wf (handA A t (nI p)) := by
  unfold handA
  rcases ht with rfl | ⟨k, hk, rfl⟩
  · rw [if_pos rfl]; exact F
  · have := F.1.2.2.2
    rw [if_neg (m1_ne (by omega)), nI_clamp (by omega)]
    refine (F.mv (Or.inr ⟨Or.inl rfl, p, hp, rfl, lv⟩) (fun _ u hu _ h1 => not_held F e u hu h1)).own (Or.inr ⟨p, ?_, rfl, ?_⟩)
    · rw [Kp.mv.1]; exact hp
    · rw [mvA_ne (by omega)]; exact lv
theorem Wf.swap {A : Vs} (F : Wf A) {p q : Nat} (hp : p < nP A) (hq : q < nP A) (ne : p ≠ q) (l1 : A 5 p = 1) (l2 : A 5 q = 1) : Wf (handA (handA A (holdF A (nI p)) (nI q)) (holdF A (nI q)) (nI p)) := by
  have h7 := F.1.2.1
  have h10 := F.1.2.2.2
  rcases holdF_spec A (nI p) with ⟨e1, -⟩ | ⟨u, hu, e1, u1, u2⟩
  · rw [e1]
    have : handA A (-1) (nI q) = A := by unfold handA; rw [if_pos rfl]
    rw [this]
    exact F.hand (hold_or A _) hp l1 e1
  · rcases holdF_spec A (nI q) with ⟨e2, -⟩ | ⟨w, hw, e2, w1, w2⟩
    · rw [e2]
      have : ∀ B : Vs, handA B (-1) (nI p) = B := fun B => by unfold handA; rw [if_pos rfl]
      rw [this]
      exact F.hand (hold_or A _) hq l2 e2
    · have uw : u ≠ w := fun z => by
        rw [z, w2] at u2; exact ne ((nI_eq (by omega) (by omega)).mp u2).symm
      have F1 := F.mv (t := u) (w := 0) (x := -1) (Or.inl ⟨rfl, rfl⟩) (fun z => absurd z (by decide))
      have P1 : nP (mvA A u 0 (-1)) = nP A := Kp.mv.1
      have T1 : nT (mvA A u 0 (-1)) = nT A := Kp.mv.2
      have F2 := F1.mv (t := w) (w := 1) (x := nI p) (Or.inr ⟨Or.inl rfl, p, by rw [P1]; exact hp, rfl, by rw [mvA_ne (by omega)]; exact l1⟩) (fun _ t ht _ h1 h2 => by
        rw [T1] at ht
        by_cases z : t = u
        · subst z; rw [mvA_9] at h1; exact absurd h1 (by decide)
        · rw [mvA_ne (by omega)] at h1 h2
          have := hold_of F ht h1 h2
          rw [e1] at this
          exact z ((nI_eq (by omega) (by omega)).mp this).symm)
      have P2 : nP (mvA (mvA A u 0 (-1)) w 1 (nI p)) = nP A := Kp.mv.1.trans P1
      have T2 : nT (mvA (mvA A u 0 (-1)) w 1 (nI p)) = nT A := Kp.mv.2.trans T1
      have F3 := F2.mv (t := u) (w := 1) (x := nI q) (Or.inr ⟨Or.inl rfl, q, by rw [P2]; exact hq, rfl, by rw [mvA_ne (by omega), mvA_ne (by omega)]; exact l2⟩) (fun _ t ht htu h1 h2 => by
        rw [T2] at ht
        by_cases z : t = w
        · subst z; rw [mvA_10] at h2; exact ne ((nI_eq (by omega) (by omega)).mp h2)
        · rw [mvA_ne (by omega), mvA_ne (by omega)] at h1 h2
          have := hold_of F ht h1 h2
          rw [e2] at this
          exact z ((nI_eq (by omega) (by omega)).mp this).symm)
      have P3 : nP (mvA (mvA (mvA A u 0 (-1)) w 1 (nI p)) u 1 (nI q)) = nP A := Kp.mv.1.trans P2
      have lq : ∀ x, mvA (mvA (mvA A u 0 (-1)) w 1 (nI p)) u 1 (nI q) 5 x = A 5 x := fun x => by rw [mvA_ne (by omega), mvA_ne (by omega), mvA_ne (by omega)]
      have F4 := F3.own (t := u) (x := nI q) (Or.inr ⟨q, by rw [P3]; exact hq, rfl, by rw [lq]; exact l2⟩)
      have F5 := F4.own (t := w) (x := nI p) (Or.inr ⟨p, by rw [nP_up (by omega), P3]; exact hp, rfl, by rw [up_ne (by omega), lq]; exact l1⟩)
      rw [e1, e2]
      unfold handA
      rw [if_neg (m1_ne (by omega)), if_neg (m1_ne (by omega)), nI_clamp (show u < 2 ^ 31 by omega), nI_clamp (show w < 2 ^ 31 by omega)]
      have : up (mvA (up (mvA A u 1 (nI q)) 8 u (nI q)) w 1 (nI p)) 8 w (nI p) = up (up (mvA (mvA (mvA A u 0 (-1)) w 1 (nI p)) u 1 (nI q)) 8 u (nI q)) 8 w (nI p) := by
        funext k j
        simp only [up, mvA]
        by_cases h1 : j = u
        · by_cases k9 : k = 9
          · simp [h1, uw, k9]
          · by_cases k10 : k = 10
            · simp [h1, uw, k10]
            · simp [h1, uw, k9, k10]
        · by_cases h2 : j = w
          · simp [h2, show ¬ w = u from fun z => uw z.symm]
          · simp [h1, h2]
      rw [this]; exact F5
theorem Wf.born {A : Vs} (F : Wf A) (h6 : nP A < 7) {a g o w : Int32} (ha : Rg a 99) (hg : Rg g 9) (ho : o = -1 ∨ ∃ q, q < nP A ∧ o = nI q) (hw : w = 0 ∨ w = 1) : Wf (addP A a g o w) := by
  have F' := F
  obtain ⟨B, R, P, T, U, L7, L6⟩ := F
  have hP := nP_add (A := A) B (a := a) (g := g) (o := o) (w := w)
  have hT : nT (addP A a g o w) = nT A := by unfold nT; rw [addP_lo (by omega) (by omega)]
  have lo : ∀ {k j : Nat}, ¬ (k = 0 ∧ j = 0) → j ≠ nP A ∨ k = 0 ∨ 6 ≤ k → addP A a g o w k j = A k j := fun h1 h2 => addP_lo h1 h2
  have n1 : addP A a g o w 1 (nP A) = a := by unfold addP; rw [up_ne (by omega), up_ne (by omega), up_ne (by omega), up_ne (by omega), up_ne (by omega), up_same]
  have n2 : addP A a g o w 2 (nP A) = g := by unfold addP; rw [up_ne (by omega), up_ne (by omega), up_ne (by omega), up_ne (by omega), up_same]
  have n3 : addP A a g o w 3 (nP A) = o := by unfold addP; rw [up_ne (by omega), up_ne (by omega), up_ne (by omega), up_same]
  have n4 : addP A a g o w 4 (nP A) = w := by unfold addP; rw [up_ne (by omega), up_ne (by omega), up_same]
  have n5 : addP A a g o w 5 (nP A) = 1 := by unfold addP; rw [up_ne (by omega), up_same]
  have hL : ∀ x, Lv A x → Lv (addP A a g o w) x := fun x ⟨q, q1, q2, q3⟩ => ⟨q, by omega, q2, by rw [lo (by omega) (by omega)]; exact q3⟩
  refine ⟨⟨?_, by omega, ?_, ?_⟩, ?_, fun p hp => ?_, fun t ht => ?_, ?_, ?_, ?_⟩
  · rw [hP]; unfold addP; rw [up_same, B.1, nI_1]
  · rw [hT, lo (by omega) (by omega)]; exact B.2.2.1
  · rw [hT]; exact B.2.2.2
  · intro p hp
    rw [hP] at hp ⊢
    by_cases z : p = nP A
    · subst z; rw [n3]; exact ho.imp id (fun ⟨q, q1, q2⟩ => ⟨q, by omega, q2⟩)
    · rw [lo (by omega) (by omega)]
      exact (R p (by omega)).imp id (fun ⟨q, q1, q2⟩ => ⟨q, by omega, q2⟩)
  · rw [hP] at hp
    unfold WfP
    by_cases z : p = nP A
    · subst z; rw [n1, n2, n4, n5]; exact ⟨hw, Or.inr rfl, ha, hg⟩
    · rw [lo (by omega) (by omega), lo (by omega) (by omega), lo (by omega) (by omega), lo (by omega) (by omega)]; exact P p (by omega)
  · rw [hT] at ht
    have := T t ht
    unfold WfT at this ⊢
    rw [lo (by omega) (by omega), lo (by omega) (by omega), lo (by omega) (by omega), lo (by omega) (by omega), lo (by omega) (by omega)]
    exact ⟨this.1.imp id (hL _), this.2.1.imp id (fun z => ⟨z.1, hL _ z.2⟩), this.2.2⟩
  · unfold Un; rw [hT]; intro t u ht hu; rw [lo (by omega) (by omega), lo (by omega) (by omega), lo (by omega) (by omega), lo (by omega) (by omega)]; exact U t u ht hu
  · rw [lo (by omega) (by omega)]; exact L7
  · rw [lo (by omega) (by omega)]; exact L6
/-- what an act makes of a valley is one -/
def RaOk (R : Ra) : Prop := ∀ A', R.2 = some A' → Wf A'
theorem RaOk_no {k : Int32} : RaOk (no_ k) := fun _ z => by cases z
theorem RaOk_yes {v : Int32} {A : Vs} (F : Wf A) : RaOk (yes_ v A) := fun A' z => by cases z; exact F
theorem RaOk_ite {c : Prop} [Decidable c] {R S : Ra} (h1 : c → RaOk R) (h2 : ¬ c → RaOk S) : RaOk (if c then R else S) := by
  split
  · exact h1 ‹_›
  · exact h2 ‹_›
section AOK
variable {A : Vs} {T : Tt}
theorem thing_in (F : Wf A) {t : Int32} (n : ¬ noF (A 0 1) t = 1) : ∃ k, k < nT A ∧ t = nI k ∧ t.toNatClampNeg = k := by
  rcases thing_cases F.1 t with e | ⟨e, k, hk, rfl⟩
  · exact absurd e n
  · exact ⟨k, hk, rfl, nI_clamp (by have := F.1.T10 hk; omega)⟩
theorem person_in (F : Wf A) {t : Int32} (n : ¬ noF (A 0 0) t = 1) : ∃ k, k < nP A ∧ t = nI k ∧ t.toNatClampNeg = k := by
  rcases person_cases F.1 t with e | ⟨e, k, hk, rfl⟩
  · exact absurd e n
  · exact ⟨k, hk, rfl, nI_clamp (by have := F.1.P7 hk; omega)⟩
theorem ok_nights (F : Wf A) (n : Int32) : RaOk (aNights T A n) := RaOk_ite (fun _ => RaOk_no) (fun _ => RaOk_ite (fun _ => RaOk_no) (fun _ => RaOk_yes (F.pass T _).1))
theorem ok_lay (F : Wf A) (t p : Int32) : RaOk (aLay A t p) := RaOk_ite (fun _ => RaOk_no) (fun _ => RaOk_ite (fun _ => RaOk_no) (fun n => RaOk_ite (fun c => by
  obtain ⟨k, hk, e, e2⟩ := person_in F n
  rw [e2] at c
  exact RaOk_yes (F.mv (Or.inr ⟨Or.inr rfl, k, hk, e, c.2⟩) (fun z => absurd z (by decide)))) (fun _ => RaOk_no)))
theorem ok_clear (F : Wf A) (t : Int32) : RaOk (aClear A t) := RaOk_ite (fun _ => RaOk_no) (fun _ => RaOk_ite (fun _ => RaOk_yes (F.mv (Or.inl ⟨rfl, rfl⟩) (fun z => absurd z (by decide)))) (fun _ => RaOk_no))
theorem ok_open (F : Wf A) (t : Int32) : RaOk (aOpen A t) := RaOk_ite (fun _ => RaOk_no) (fun _ => RaOk_ite (fun _ => RaOk_no) (fun _ => RaOk_yes (F.mv (Or.inl ⟨rfl, rfl⟩) (fun z => absurd z (by decide)))))
theorem ok_wake (F : Wf A) (t : Int32) : RaOk (aWake T A t) := RaOk_ite (fun _ => RaOk_no) (fun n => RaOk_ite (fun c => by
  obtain ⟨k, hk, -, e2⟩ := thing_in F n
  rw [e2] at c ⊢
  rcases (F.2.2.2.1 k hk).1 with ow | lv
  · exact absurd ow c.1.2
  · exact RaOk_yes (F.mv (Or.inr ⟨Or.inl rfl, lv⟩) (fun _ u hu _ h1 => not_held F c.2.1 u hu h1))) (fun _ => RaOk_no))
theorem ok_swap (F : Wf A) (p q : Int32) : RaOk (aSwap A p q) := RaOk_ite (fun _ => RaOk_no) (fun n1 => RaOk_ite (fun _ => RaOk_no) (fun n2 => RaOk_ite (fun _ => RaOk_no) (fun ne => RaOk_ite (fun c => by
  obtain ⟨k, hk, rfl, e1⟩ := person_in F n1
  obtain ⟨j, hj, rfl, e2⟩ := person_in F n2
  rw [e1, e2] at c
  exact RaOk_yes (F.swap hk hj (fun z => ne (by rw [z])) c.1 c.2)) (fun _ => RaOk_no))))
theorem ok_heir (F : Wf A) (p q : Int32) : RaOk (aHeir A p q) := RaOk_ite (fun _ => RaOk_no) (fun _ => RaOk_ite (fun _ => RaOk_no) (fun n => RaOk_ite (fun _ => RaOk_no) (fun _ => RaOk_yes (F.upP (by omega) (fun z => absurd z (by decide)) (fun z => absurd z (by decide)) (fun _ => by
  by_cases c : q = -1
  · exact Or.inl c
  · obtain ⟨k, hk, e, -⟩ := person_in F (t := q) (fun z => n ⟨c, z⟩)
    exact Or.inr ⟨k, hk, e⟩) (fun z => absurd z (by decide))))))
theorem ok_tie (F : Wf A) (p b : Int32) : RaOk (aTie A p b) := RaOk_ite (fun _ => RaOk_no) (fun _ => RaOk_yes (F.upP (by omega) (fun z => absurd z (by decide)) (fun z => absurd z (by decide)) (fun z => absurd z (by decide)) (fun _ => b01_in b)))
theorem ok_born (F : Wf A) (g : Int32) : RaOk (aBorn A g) := RaOk_ite (fun _ => RaOk_no) (fun c1 => RaOk_ite (fun _ => RaOk_no) (fun c2 => RaOk_ite (fun _ => RaOk_no) (fun c3 => RaOk_yes (by
  have hp : nP A < 7 := by
    rcases Nat.lt_or_ge (nP A) 7 with q | q
    · exact q
    · exact absurd (by rw [F.1.1]; exact nI_le q (by have := F.1.2.1; omega)) c3
  obtain ⟨k, hk, rfl⟩ := nI_of c1
  exact F.born hp ⟨0, by omega, rfl⟩ ⟨k, (by
    rcases Nat.lt_or_ge 9 k with q | q
    · exact absurd (show (9 : Int32) < nI k from nI_lt q hk) c2
    · exact q), rfl⟩ (Or.inl rfl) (Or.inl rfl)))))
theorem ok_give (F : Wf A) (t p : Int32) : RaOk (aGive A t p) := RaOk_ite (fun _ => RaOk_no) (fun _ => RaOk_ite (fun _ => RaOk_no) (fun n => RaOk_ite (fun c => by
  obtain ⟨k, hk, e, e2⟩ := person_in F n
  rw [e2] at c
  exact RaOk_yes (F.own (Or.inr ⟨k, hk, e, c.1.2⟩))) (fun _ => RaOk_no)))
end AOK
section MACT2
variable {G : Gx} {h h' g : Hp} {m : Nat} {A A' : Vs} {T : Tt} {ln : Int32} {im : Option Sv} {pa : Nat → Vs} {r : Nat}
theorem o_holds (hl : G.1.stackTraces = false) (hm : G.n0 ≤ m) (W : WldAt h m A) (B : Bd A) {t : Int32} (ht : t = -1 ∨ ∃ k, k < nT A ∧ t = nI k) (p : Int32) : EvM G m_Mo_holds [.ref m, .int p, .int t] h (mpost m h (handA A t p)) := by
  unfold handA
  rcases ht with rfl | ⟨k, hk, rfl⟩
  · rw [if_pos rfl]
    exact en_Mo_holds h _ m _ _ (e_Mo_holds_0 hl h _ m _ _ ⟨fun q => absurd rfl q, fun _ => ⟨rfl, W, Fs.rf⟩⟩)
  · have k10 := B.T10 hk
    rw [if_neg (m1_ne (by omega)), nI_clamp (by omega)]
    refine en_Mo_holds h _ m _ _ (e_Mo_holds_0 hl h _ m _ _ ⟨fun _ => ⟨W.kd, _, o_lies hl hm W k10 1 p (fun q => absurd q (by decide)), fun o h1 z => Or.inl ?_⟩, fun q => absurd q (m1_ne (by omega))⟩)
    obtain ⟨z1, W1, F1⟩ := z
    refine ⟨z1, _, W1.r1, _, o_tAt hl k 2, W1.wr hm (by omega), ?_⟩
    rw [nI_clamp (by omega)]
    exact ⟨rfl, W1.set (k := 6 + 2) (j := k) (dT (by omega) k10) (adT (by omega)) p, F1.set (mW_at (by omega) (by omega))⟩
theorem p_swap (hl : G.1.stackTraces = false) (hm : G.n0 ≤ m) (M : MV G h m A T ln im pa r) (F : Wf A) (p q : Int32) : EvM G m_Mo_swap [.ref m, .int p, .int q] h (MA G h m A T ln im pa r (aSwap A p q)) := by
  have M0 := M.thr 0
  unfold aSwap
  refine en_Mo_swap h _ m _ _ (e_Mo_swap_0 hl h _ m _ _ ⟨⟨hm, M.W.kd⟩, e_Mo_swap_5 hl _ _ m _ _ ?_⟩)
  rcases person_cases F.1 p with e | ⟨e, k, hk, rfl⟩
  · rw [if_pos e]
    exact ⟨M0.W.kd, 1, o_noPe hl M0.W F.1 e, fun _ => ⟨M0.W.kd, _, o_thr1 hl hm M0.W 1, fun o h1 z => Or.inl ⟨1, z.1, fun _ => by rw [z.2]; exact MA_no M 1, fun q => absurd q (by decide)⟩⟩, fun q => absurd q (by decide)⟩
  · have k7 := F.1.P7 hk
    rw [if_neg (by rw [e]; decide), nI_clamp (show k < 2 ^ 31 by omega)]
    rcases person_cases F.1 q with e2 | ⟨e2, j, hj, rfl⟩
    · rw [if_pos e2]
      exact ⟨M0.W.kd, 0, o_noPe hl M0.W F.1 e, fun q => absurd rfl q, fun _ => ⟨M0.W.kd, 1, o_noPe hl M0.W F.1 e2, fun q => absurd q (by decide), fun _ => ⟨M0.W.kd, _, o_thr1 hl hm M0.W 1, fun o h1 z => Or.inl ⟨1, z.1, fun _ => by rw [z.2]; exact MA_no M 1, fun q => absurd q (by decide)⟩⟩⟩⟩
    · have j7 := F.1.P7 hj
      rw [if_neg (by rw [e2]; decide), nI_clamp (show j < 2 ^ 31 by omega)]
      refine ⟨M0.W.kd, 0, o_noPe hl M0.W F.1 e, fun q => absurd rfl q, fun _ => ⟨M0.W.kd, 0, o_noPe hl M0.W F.1 e2, fun _ => ⟨M0.W.kd, _, o_thr0 hl 1, fun o h1 z => Or.inl ⟨0, z.1, fun q => absurd rfl q, fun _ => ?_⟩⟩, fun q => absurd rfl q⟩⟩
      rw [z.2]
      refine ⟨fun c => e_Mo_swap_45 hl _ _ m _ _ _ _ ⟨M0.W.kd, _, o_thr0 hl 2, fun o h1 z => Or.inl ⟨0, z.1, fun q => absurd rfl q, fun _ => ?_⟩⟩, fun c => e_Mo_swap_45 hl _ _ m _ _ _ _ ⟨M0.W.kd, _, o_thr1 hl hm M0.W 2, fun o h1 z => Or.inl ⟨1, z.1, fun _ => ?_, fun q => absurd q (by decide)⟩⟩⟩
      · rw [z.2, if_neg c]
        refine ⟨M0.W.kd, _, o_lives hl M0.W k7, fun d => ⟨M0.W.kd, _, o_thr1 hl hm M0.W 3, fun o h1 z => Or.inl ⟨1, z.1, fun q => absurd q (by decide), fun _ => ?_⟩⟩, fun d => ⟨M0.W.kd, _, o_lives hl M0.W j7, fun f => ⟨M0.W.kd, _, o_thr0 hl 3, fun o h1 z => Or.inl ⟨0, z.1, fun _ => ?_, fun q => absurd rfl q⟩⟩, fun f => ⟨M0.W.kd, _, o_thr1 hl hm M0.W 3, fun o h1 z => Or.inl ⟨1, z.1, fun q => absurd q (by decide), fun _ => ?_⟩⟩⟩⟩
        · rw [z.2, if_neg (fun q => ite0 d q.1)]; exact MA_no M 3
        · rw [z.2, if_pos ⟨ite1 d, ite1 f⟩]
          have ne : k ≠ j := fun z => c (by rw [z])
          rw [swap_comm F hk hj ne]
          refine ⟨M0.W.kd, _, o_remembers hl hm M0, fun o2 h2 y => Or.inl ?_⟩
          have M2 := y.2.1
          refine ⟨y.1, M2.W.kd, _, o_heldBy hl M2.W F _, M2.W.kd, _, o_heldBy hl M2.W F _, M2.W.kd, _, o_holds hl hm M2.W F.1 (hold_or A _) _, fun o3 h3 w => Or.inl ?_⟩
          obtain ⟨w1, W3, F3⟩ := w
          obtain ⟨B3, T3, -⟩ := handA_Bd F.1 (holdF A (nI j)) (nI k)
          exact ⟨w1, W3.kd, _, o_holds hl hm W3 B3 (by rw [T3]; exact hold_or A _) _, fun o4 h4 w => Or.inl ⟨w.1, MA_of (mapost_of y w.2.1 (F3.tr w.2.2) _)⟩⟩
        · rw [z.2, if_neg (fun q => ite0 f q.2)]; exact MA_no M 3
      · rw [z.2, if_pos c]; exact MA_no M 2
theorem o_isBorn (hl : G.1.stackTraces = false) (hm : G.n0 ≤ m) (W : WldAt h m A) (B : Bd A) (hp : nP A < 7) (a g : Int32) : EvM G m_Mo_isBorn [.ref m, .int a, .int g] h (mpostI m h (addP A a g (-1) 0) (A 0 0)) := by
  have W1 := W.set (k := 1 + 0) (j := nP A) (dP (by omega) hp) (adP (by omega)) a
  have W2 := W1.set (k := 1 + 1) (j := nP A) (dP (by omega) hp) (adP (by omega)) g
  have W3 := W2.set (k := 1 + 2) (j := nP A) (dP (by omega) hp) (adP (by omega)) (-1)
  have W4 := W3.set (k := 1 + 3) (j := nP A) (dP (by omega) hp) (adP (by omega)) 0
  have W5 := W4.set (k := 1 + 4) (j := nP A) (dP (by omega) hp) (adP (by omega)) 1
  have r0 := W5.at (k := 0) (j := 0) (n := 0) (d0 (by decide)) rfl
  rw [up_ne (by omega), up_ne (by omega), up_ne (by omega), up_ne (by omega), up_ne (by omega)] at r0
  have W6 := W5.set (k := 0) (j := 0) (n := 0) (d0 (by decide)) rfl (A 0 0 + 1)
  have c : ∀ f, f < 5 → (nI (9 + 5 * nP A + f)).toNatClampNeg = 9 + 5 * nP A + f := fun f hf => nI_clamp (by omega)
  refine en_Mo_isBorn h _ m _ _ (e_Mo_isBorn_0 hl h _ m _ _ ⟨W.kd, nI (nP A), by rw [← B.1]; exact o_people hl W, _, W.r1, _, o_pAt hl (nP A) 0, W.wr hm (by omega), ?_⟩)
  rw [c 0 (by omega)]
  refine e_Mo_isBorn_16 hl _ _ m _ _ ⟨_, W1.r1, _, o_pAt hl (nP A) 1, W1.wr hm (by omega), ?_⟩
  rw [c 1 (by omega)]
  refine e_Mo_isBorn_27 hl _ _ m _ ⟨_, W2.r1, _, o_pAt hl (nP A) 2, W2.wr hm (by omega), ?_⟩
  rw [c 2 (by omega)]
  refine e_Mo_isBorn_38 hl _ _ m _ ⟨_, W3.r1, _, o_pAt hl (nP A) 3, W3.wr hm (by omega), ?_⟩
  rw [c 3 (by omega)]
  refine e_Mo_isBorn_49 hl _ _ m _ ⟨_, W4.r1, _, o_pAt hl (nP A) 4, W4.wr hm (by omega), ?_⟩
  rw [c 4 (by omega)]
  refine e_Mo_isBorn_60 hl _ _ m _ ⟨_, W5.r1, _, r0, W5.wr hm (n := 0) (by omega), e_Mo_isBorn_70 hl _ _ _ ⟨by rw [← B.1], W6, ?_⟩⟩
  exact (((((Fs.rf.set (mW_at (by omega) (by omega))).set (mW_at (by omega) (by omega))).set (mW_at (by omega) (by omega))).set (mW_at (by omega) (by omega))).set (mW_at (by omega) (by omega))).set (mW_at (by decide) (by decide))
theorem p_born (hl : G.1.stackTraces = false) (hm : G.n0 ≤ m) (M : MV G h m A T ln im pa r) (F : Wf A) (g : Int32) : EvM G m_Mo_born [.ref m, .int g] h (MA G h m A T ln im pa r (aBorn A g)) := by
  have M0 := M.thr 0
  unfold aBorn
  refine en_Mo_born h _ m _ (e_Mo_born_0 hl h _ m _ ⟨⟨hm, M.W.kd⟩, e_Mo_born_5 hl _ _ m _ ?_⟩)
  by_cases c1 : g < 0
  · rw [if_pos c1]
    exact ⟨0, o_ine hl (by rw [if_pos c1]), fun q => absurd rfl q, fun _ => ⟨M0.W.kd, _, o_thr1 hl hm M0.W 1, fun o h1 z => Or.inl ⟨1, z.1, fun _ => by rw [z.2]; exact MA_no M 1, fun q => absurd q (by decide)⟩⟩⟩
  · rw [if_neg c1]
    by_cases c2 : 9 < g
    · rw [if_pos c2]
      exact ⟨0, o_ine hl (by rw [if_neg c1, if_pos c2]), fun q => absurd rfl q, fun _ => ⟨M0.W.kd, _, o_thr1 hl hm M0.W 1, fun o h1 z => Or.inl ⟨1, z.1, fun _ => by rw [z.2]; exact MA_no M 1, fun q => absurd q (by decide)⟩⟩⟩
    · rw [if_neg c2]
      refine ⟨1, o_ine hl (by rw [if_neg c1, if_neg c2]), fun _ => ⟨M0.W.kd, _, o_thr0 hl 1, fun o h1 z => Or.inl ⟨0, z.1, fun q => absurd rfl q, fun _ => ?_⟩⟩, fun q => absurd q (by decide)⟩
      rw [z.2]
      have h7 := F.1.2.1
      refine ⟨M0.W.kd, _, o_people hl M0.W, fun c3 => ⟨M0.W.kd, _, o_thr0 hl 2, fun o h1 z => Or.inl ⟨0, z.1, fun _ => ?_, fun q => absurd rfl q⟩⟩, fun c3 => ⟨M0.W.kd, _, o_thr1 hl hm M0.W 2, fun o h1 z => Or.inl ⟨1, z.1, fun q => absurd q (by decide), fun _ => ?_⟩⟩⟩
      · have hp : nP A < 7 := by
          rcases Nat.lt_or_ge (nP A) 7 with q | q
          · exact q
          · exact absurd (show A 0 0 = nI 7 by rw [F.1.1, show nP A = 7 by omega]) c3
        rw [z.2, if_neg (by rw [F.1.1]; exact nI_ge hp (by decide))]
        refine ⟨M0.W.kd, _, o_remembers hl hm M0, fun o2 h2 y => Or.inl ?_⟩
        have M2 := y.2.1
        exact ⟨y.1, M2.W.kd, _, o_isBorn hl hm M2.W F.1 hp 0 g, fun o3 h3 w => Or.inl ⟨_, w.1, MA_of (mapost_of y w.2.1 w.2.2 _)⟩⟩
      · rw [z.2, if_pos (by rw [c3]; exact Int32.le_refl _)]; exact MA_no M 2
theorem p_seed (hl : G.1.stackTraces = false) (hm : G.n0 ≤ m) (M : MV G h m A T ln im pa r) (n : Int32) : EvM G m_Mo_seed [.ref m, .int n] h (fun o h' => o = .inl (some (.int (A 0 5))) ∧ MV G h' m (up A 0 5 n) T ln im pa r ∧ Fs (mA m) h h') := by
  have M0 := M.thr 0
  have W1 := M0.W.set (k := 0) (j := 5) (n := 8) (d0 (by decide)) rfl n
  have F1 : Fs (mW m) (hset h m 0 (.int 0)) (hset (hset h m 0 (.int 0)) (m + 1) 8 (.int n)) := Fs.rf.set (mW_at (by decide) (by decide))
  exact en_Mo_seed h _ m _ (e_Mo_seed_0 hl h _ m _ ⟨⟨hm, M.W.kd⟩, e_Mo_seed_5 hl _ _ m _ ⟨_, M0.W.r1, _, M0.W.at (k := 0) (j := 5) (n := 8) (d0 (by decide)) rfl, _, M0.W.r1, M0.W.wr hm (n := 8) (by decide), e_Mo_seed_21 hl _ _ _ ⟨rfl, M0.kw W1 F1, mA_0.tr (mW_A F1)⟩⟩⟩)
theorem o_manyIn (hl : G.1.stackTraces = false) (W : WldAt h m A) (B : Bd A) (p : Int32) : EvI G m_Mo_manyIn [.ref m, .int p] h (inF A p) := by
  refine en_Mo_manyIn h _ m p (e_Mo_manyIn_0 hl h _ m p ?_)
  refine for_up (Q := fun t => Ev G m_Mo_manyIn 4 [.ref m, .int p, .int (lp (fun t n => if A 9 t = p then n + 1 else n) t 0), .int (nI t)] [] h 0 0 _) (n := nT A) ?_ (fun t ht ih => ?_) 0 (Nat.zero_le _)
  · exact e_Mo_manyIn_4 hl h _ m p _ _ ⟨W.kd, _, o_things hl W, fun _ => ⟨rfl, rfl⟩, fun c => absurd B.end_T c⟩
  · refine e_Mo_manyIn_4 hl h _ m p _ _ ⟨W.kd, _, o_things hl W, fun c => absurd c (B.in_T ht), fun _ => ⟨W.kd, _, o_ofThing hl W (B.T10 ht) (f := 3) (by decide), fun c => ?_, fun c => ?_⟩⟩
    · rw [nI_1, Int32.add_zero]; simp only [lp] at ih; rw [if_neg (show ¬ A 9 t = p from c)] at ih; exact ih
    · rw [nI_1]; simp only [lp] at ih; rw [if_pos (show A 9 t = p from c)] at ih; exact ih
theorem p_count (hl : G.1.stackTraces = false) (hm : G.n0 ≤ m) (M : MV G h m A T ln im pa r) (F : Wf A) (w : Int32) : EvM G m_Mo_count [.ref m, .int w] h (MA G h m A T ln im pa r ((0, cntF A ln r w), none)) := by
  have M0 := M.thr 0
  have W := M0.W
  have ok : ∀ v, v = cntF A ln r w → MA G h m A T ln im pa r ((0, cntF A ln r w), none) (.inl (some (.int v))) (hset h m 0 (.int 0)) := fun v e => ⟨by rw [e], hs_eq, mA_0, M0⟩
  refine en_Mo_count h _ m _ (e_Mo_count_0 hl h _ m _ ⟨⟨hm, M.W.kd⟩, e_Mo_count_5 hl _ _ m _ ?_⟩)
  unfold cntF at ok ⊢
  rcases num_cases 12 (by decide) w with ⟨e, c⟩ | ⟨e, c1, c2, j, hj, rfl⟩
  · rw [if_pos e] at ok ⊢
    have no : ∀ k, k < 12 → w = nI k → False := fun k hk q => by
      rcases c with c | c
      · rw [q] at c; exact nI_pos (by omega) c
      · rw [q] at c; exact nI_ge hk (by decide) c
    refine ⟨⟨fun q => (no 0 (by decide) q).elim, fun q => (no 1 (by decide) q).elim, fun q => (no 2 (by decide) q).elim, fun q => (no 3 (by decide) q).elim, fun q => (no 4 (by decide) q).elim, fun q => (no 5 (by decide) q).elim, fun q => (no 6 (by decide) q).elim, fun q => (no 7 (by decide) q).elim, fun q => (no 8 (by decide) q).elim, fun q => (no 9 (by decide) q).elim, fun q => (no 10 (by decide) q).elim, fun q => (no 11 (by decide) q).elim, trivial⟩, fun _ => ⟨0, o_ine hl ?_, fun _ => ok _ rfl, fun q => absurd rfl q⟩⟩
    rcases c with c | c
    · rw [if_pos (Int32.lt_trans c (by decide))]
    · rw [if_neg (fun q => absurd (Int32.lt_of_le_of_lt c q) (by decide)), if_pos (Int32.lt_of_lt_of_le (by decide : (6 : Int32) < nI 12) c)]
  · rw [if_neg (by rw [e]; decide), nI_clamp (by omega)] at ok ⊢
    have is : ∀ k, k < 12 → nI j = nI k → j = k := fun k hk q => (nI_eq (by omega) (by omega)).mp q
    refine ⟨⟨fun q => ?_, fun q => ?_, fun q => ?_, fun q => ?_, fun q => ?_, fun q => ?_, fun q => ?_, fun q => ?_, fun q => ?_, fun q => ?_, fun q => ?_, fun q => ?_, trivial⟩, fun q => absurd q (by rintro (y | y); exact c1 y; exact c2 y)⟩
    · have := is 0 (by decide) q; subst this; exact ⟨W.kd, _, o_people hl W, ok _ rfl⟩
    · have := is 1 (by decide) q; subst this; exact ⟨W.kd, _, o_things hl W, ok _ rfl⟩
    · have := is 2 (by decide) q; subst this; exact ⟨_, W.r1, _, W.at (k := 0) (j := 6) (n := 2) (d0 (by decide)) rfl, ok _ rfl⟩
    · have := is 3 (by decide) q; subst this
      obtain ⟨w3, w4, q1, q2, q3⟩ := M0.2.1.2
      refine ⟨_, W.r1, w3, aI_of (n := 2092) (i := 3) W.1.2.1 (by decide) (by decide) q1, fun z => ok _ ?_, fun z => ⟨_, W.r1, w4, aI_of (n := 2092) (i := 394) W.1.2.1 (by decide) (by decide) q2, ok _ ?_⟩⟩
      · show -1 = ln; rw [q3, if_neg z]
      · show w4 = ln; rw [q3, if_pos z]
    · have := is 4 (by decide) q; subst this; exact ⟨1, o_ine hl (by decide), fun q => absurd q (by decide), fun _ => ⟨_, W.r1, _, W.at (k := 0) (j := 3) (n := 4) (d0 (by decide)) rfl, ok _ rfl⟩⟩
    · have := is 5 (by decide) q; subst this; exact ⟨1, o_ine hl (by decide), fun q => absurd q (by decide), fun _ => ⟨_, W.r1, _, W.at (k := 0) (j := 4) (n := 5) (d0 (by decide)) rfl, ok _ rfl⟩⟩
    · have := is 6 (by decide) q; subst this; exact ⟨1, o_ine hl (by decide), fun q => absurd q (by decide), fun _ => ⟨_, W.r1, _, W.at (k := 0) (j := 2) (n := 6) (d0 (by decide)) rfl, ok _ rfl⟩⟩
    · have := is 7 (by decide) q; subst this; exact ⟨W.kd, _, o_worthAll hl W F.1, ok _ rfl⟩
    · have := is 8 (by decide) q; subst this; exact ⟨W.kd, _, o_manyIn hl W F.1 _, ok _ rfl⟩
    · have := is 9 (by decide) q; subst this; exact ⟨W.kd, _, o_manyIn hl W F.1 _, ok _ rfl⟩
    · have := is 10 (by decide) q; subst this; exact ⟨_, W.r1, _, W.at (k := 0) (j := 7) (n := 7) (d0 (by decide)) rfl, ok _ rfl⟩
    · have := is 11 (by decide) q; subst this; exact ⟨_, ⟨W.kd, M0.2.2.2.1.2⟩, ok _ rfl⟩
end MACT2
