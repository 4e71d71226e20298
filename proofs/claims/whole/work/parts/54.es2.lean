/-! ===== reckonings of the class, the second half ===== -/
section ES2
variable {G : Gx} {h : Hp} {v : Nat} {A : Vs} {la : Nat} {T : Tt}
theorem e_allWatched (hl : G.1.stackTraces = false) (V : VlyAt h v A la) (F : Wf A) (s : Int32) : EvI G m_Es_allWatched [.ref v, .int s] h (watF A s) := by
  have B := F.1
  refine en_Es_allWatched h _ v s (e_Es_allWatched_0 hl h _ v s ?_)
  suffices hh : ∀ d p, p + d = nP A → Ev G m_Es_allWatched 2 [.ref v, .int s, .int (nI p), un] [] h 0 0 (fun o h' => o = .inl (some (.int (watG A s d p))) ∧ h' = h) from hh (nP A) 0 (Nat.zero_add _)
  intro d
  induction d with
  | zero =>
    intro p hp
    exact e_Es_allWatched_2 hl h _ v _ _ ⟨_, V.f0, fun _ => ⟨rfl, rfl⟩, fun c => absurd (by rw [B.1, ← hp]; exact Int32.le_refl _) c⟩
  | succ d ih =>
    intro p hp
    have hpn : p < nP A := by omega
    have hp7 := B.P7 hpn
    refine e_Es_allWatched_2 hl h _ v _ _ ⟨_, V.f0, fun c => absurd c (B.in_P hpn), fun _ => ⟨V.kd, _, v_living hl V B hpn, fun c => ?_, fun c => ⟨fun e => ⟨V.kd, _, v_successor hl V B F.2.1 hpn, fun f => ?_, fun f => ⟨fun g => ?_, fun g => ?_⟩⟩, fun e => ?_⟩⟩⟩
    · rw [nI_1, watG, if_neg (ite0 c)]; exact ih (p + 1) (by omega)
    · rw [watG, if_pos (ite1 c), if_neg (show ¬ bit1 s p = 1 from e), if_pos f]; exact ⟨rfl, rfl⟩
    · rcases succF_spec F hpn with q | ⟨q, hq, eq, -, -⟩
      · exact absurd q f
      · have hq7 := B.P7 hq
        have b1 : bit1 s q = 1 := by
          have z := bit1_eq s (q := q) (by omega)
          rw [eq] at g
          have g' : ¬ bit1 s q = 0 := g
          rw [z] at g' ⊢
          split at g'
          · rename_i y; rw [if_pos y]
          · exact absurd rfl g'
        rw [nI_1, watG, if_pos (ite1 c), if_neg (show ¬ bit1 s p = 1 from e), if_neg f, if_pos (by rw [eq, nI_clamp (by omega)]; exact b1)]; exact ih (p + 1) (by omega)
    · rcases succF_spec F hpn with q | ⟨q, hq, eq, -, -⟩
      · exact absurd q f
      · have hq7 := B.P7 hq
        rw [eq] at g
        have g' : bit1 s q = 0 := g
        rw [watG, if_pos (ite1 c), if_neg (show ¬ bit1 s p = 1 from e), if_neg f, if_neg (by rw [eq, nI_clamp (by omega), g']; decide)]; exact ⟨rfl, rfl⟩
    · rw [nI_1, watG, if_pos (ite1 c), if_pos (show bit1 s p = 1 from e)]; exact ih (p + 1) (by omega)
theorem flag_small {A : Vs} (B : Bd A) (f : Nat) : ∃ s, s < 128 ∧ flagF A f = nI s := by
  have h7 := B.2.1
  obtain ⟨s, hs, e⟩ := small_of_bits (x := flagF A f) (n := nP A) (by omega) (fun i hi hz => by rw [flagF_bt (by omega) hi]; simp; omega)
  have : 2 ^ nP A ≤ 2 ^ 7 := Nat.pow_le_pow_right (by decide) h7
  exact ⟨s, by omega, e⟩
theorem e_fewest (hl : G.1.stackTraces = false) (V : VlyAt h v A la) (F : Wf A) : EvI G m_Es_fewestWatchers [.ref v] h (wchF A) := by
  have B := F.1
  obtain ⟨s, hs, es⟩ := flag_small B 5
  have hcl : (flagF A 5).toNatClampNeg = s := by rw [es]; exact nI_clamp (by omega)
  refine en_Es_fewestWatchers h _ v (e_Es_fewestWatchers_0 hl h _ v ⟨_, V.f5, ?_⟩)
  refine for_up (Q := fun t => Ev G m_Es_fewestWatchers 7 [.ref v, .int (lp (wchS A) t (flagF A 5)), .int (nI t)] [] h 0 0 _) (n := s) ?_ (fun t ht ih => ?_) 0 (Nat.zero_le _)
  · exact e_Es_fewestWatchers_7 hl h _ v _ _ ⟨_, V.f5, fun _ => ⟨by unfold wchF; rw [hcl], rfl⟩, fun c => absurd (by rw [es]; exact Int32.le_refl _) c⟩
  · simp only [lp] at ih
    generalize lp (wchS A) t (flagF A 5) = b at *
    have stay : wchS A t b = b → Ev G m_Es_fewestWatchers 7 [.ref v, .int b, .int (nI t + 1)] [] h 0 0 (fun o h' => o = .inl (some (.int (wchF A))) ∧ h' = h) := fun e => by rw [e] at ih; rw [nI_1]; exact ih
    refine e_Es_fewestWatchers_7 hl h _ v _ _ ⟨_, V.f5, fun c => absurd c (by rw [es]; exact nI_ge ht (by omega)), fun _ => ⟨_, V.f5, fun c => stay ?_, fun c => ⟨_, j_bitCount hl _, _, j_bitCount hl _, fun d => stay ?_, fun d => ⟨_, e_allWatched hl V F _, fun e => stay ?_, fun e => ?_⟩⟩⟩⟩
    · unfold wchS; rw [if_neg (fun z => c z.1)]
    · unfold wchS; rw [if_neg (fun z => Int32.not_lt.mpr d z.2.1)]
    · unfold wchS; rw [if_neg (fun z => z.2.2 e)]
    · have : wchS A t b = nI t := by unfold wchS; rw [if_pos ⟨c, Int32.not_le.mp d, e⟩]
      rw [this] at ih; rw [nI_1]; exact ih
theorem sw4 {c : Nat} (hc : c < 4) {x y z w : Int32} : (if nI c = 0 then x else if nI c = 1 then y else if nI c = 2 then z else w) = (match c with | 0 => x | 1 => y | 2 => z | _ => w) := by
  have : c = 0 ∨ c = 1 ∨ c = 2 ∨ c = 3 := by omega
  rcases this with rfl | rfl | rfl | rfl <;> rfl
theorem e_heirHas (hl : G.1.stackTraces = false) {c : Nat} (hc : c < 4) (e l : Int32) : EvI G m_Es_heirHas [.int (nI c), .int e, .int l] h (hhF (nI c) e l) := by
  refine en_Es_heirHas h _ _ _ _ (e_Es_heirHas_0 hl h _ _ _ _ ?_)
  unfold hhF
  rw [sw4 hc]
  have : c = 0 ∨ c = 1 ∨ c = 2 ∨ c = 3 := by omega
  rcases this with rfl | rfl | rfl | rfl
  · exact ⟨⟨fun _ => ⟨rfl, rfl⟩, fun q => absurd q (by decide), fun q => absurd q (by decide), trivial⟩, fun q => absurd q (by decide)⟩
  · exact ⟨⟨fun q => absurd q (by decide), fun _ => ⟨rfl, rfl⟩, fun q => absurd q (by decide), trivial⟩, fun q => absurd q (by decide)⟩
  · exact ⟨⟨fun q => absurd q (by decide), fun q => absurd q (by decide), fun _ => ⟨rfl, rfl⟩, trivial⟩, fun q => absurd q (by decide)⟩
  · exact ⟨⟨fun q => absurd q (by decide), fun q => absurd q (by decide), fun q => absurd q (by decide), trivial⟩, fun _ => ⟨rfl, rfl⟩⟩
theorem e_nurseHas (hl : G.1.stackTraces = false) {c : Nat} (hc : c < 4) (g : Int32) : EvI G m_Es_nurseHas [.int (nI c), .int g] h (nnF (nI c) g) := by
  refine en_Es_nurseHas h _ _ _ (e_Es_nurseHas_0 hl h _ _ _ ?_)
  unfold nnF
  rw [sw4 hc]
  have : c = 0 ∨ c = 1 ∨ c = 2 ∨ c = 3 := by omega
  rcases this with rfl | rfl | rfl | rfl
  · exact ⟨⟨fun _ => ⟨rfl, rfl⟩, fun q => absurd q (by decide), fun q => absurd q (by decide), trivial⟩, fun q => absurd q (by decide)⟩
  · exact ⟨⟨fun q => absurd q (by decide), fun _ => ⟨rfl, rfl⟩, fun q => absurd q (by decide), trivial⟩, fun q => absurd q (by decide)⟩
  · exact ⟨⟨fun q => absurd q (by decide), fun q => absurd q (by decide), fun _ => ⟨rfl, rfl⟩, trivial⟩, fun q => absurd q (by decide)⟩
  · exact ⟨⟨fun q => absurd q (by decide), fun q => absurd q (by decide), fun q => absurd q (by decide), trivial⟩, fun _ => ⟨rfl, rfl⟩⟩
theorem xor4 : ∀ c, c < 4 → (∃ d, d < 4 ∧ nI c ^^^ 2 = nI d) ∧ ∃ d, d < 4 ∧ nI c ^^^ 1 = nI d := by
  intro c hc
  have : c = 0 ∨ c = 1 ∨ c = 2 ∨ c = 3 := by omega
  rcases this with rfl | rfl | rfl | rfl
  · exact ⟨⟨2, by decide, by decide⟩, ⟨1, by decide, by decide⟩⟩
  · exact ⟨⟨3, by decide, by decide⟩, ⟨0, by decide, by decide⟩⟩
  · exact ⟨⟨0, by decide, by decide⟩, ⟨3, by decide, by decide⟩⟩
  · exact ⟨⟨1, by decide, by decide⟩, ⟨2, by decide, by decide⟩⟩
theorem e_resting (hl : G.1.stackTraces = false) (V : VlyAt h v A la) (F : Wf A) {p : Nat} (hp : p < nP A) : EvI G m_Es_restingChoices [.ref v, .int (nI p)] h (restF A p) := by
  refine en_Es_restingChoices h _ v _ (e_Es_restingChoices_0 hl h _ v _ ⟨_, e_estate hl V F hp, by decide, _, e_lost hl V F hp, by decide, _, V.r2, _, V.a2 (F.1.P7 hp), ?_⟩)
  unfold restF
  generalize estF A p / 10 = e
  generalize lostF A p / 10 = l
  generalize A 2 p = g
  refine for_up (Q := fun t => Ev G m_Es_restingChoices 32 [un, un, .int e, .int l, .int g, .int (restG e l g t), .int (nI t), un] [] h 0 0 _) (n := 4) ?_ (fun t ht ih => ?_) 0 (Nat.zero_le _)
  · exact e_Es_restingChoices_32 hl h _ _ _ _ _ _ ⟨fun _ => ⟨rfl, rfl⟩, fun c => absurd (by decide) c⟩
  · obtain ⟨⟨c2, h2, e2⟩, ⟨c1, h1, e1⟩⟩ := xor4 t ht
    unfold restG at ih ⊢
    simp only [lp] at ih
    refine e_Es_restingChoices_32 hl h _ _ _ _ _ _ ⟨fun c => absurd c (nI_ge ht (by decide)), fun _ => ⟨_, e_heirHas hl ht _ _, hhF (nI t ^^^ 2) e l, by rw [e2]; exact e_heirHas hl h2 _ _, fun c => ⟨fun _ => ?_, fun q => absurd rfl q⟩, fun c => ⟨fun q => absurd q (by decide), fun _ => ⟨_, e_nurseHas hl ht _, nnF (nI t ^^^ 1) g, by rw [e1]; exact e_nurseHas hl h1 _, fun d => ?_, fun d => ?_⟩⟩⟩⟩
    · rw [nI_1]; rw [if_neg (fun z => z.1 c)] at ih; exact ih
    · rw [nI_1]; rw [if_neg (fun z => z.2 d)] at ih; exact ih
    · rw [nI_1]; rw [if_pos ⟨c, d⟩] at ih; exact ih
theorem e_odds (hl : G.1.stackTraces = false) (V : VlyAt h v A la) (F : Wf A) (L : LawOk G h la T) {n : Nat} (hn : n < 2 ^ 31) : EvI G m_Es_oddsThatAllWake [.ref v, .int (nI n)] h (oddF T A n) := by
  have B := F.1
  refine en_Es_oddsThatAllWake h _ v _ (e_Es_oddsThatAllWake_0 hl h _ v _ ?_)
  refine for_up (Q := fun t => Ev G m_Es_oddsThatAllWake 6 [.ref v, .int (nI n), .int (lp (fun _ d => oddS T A (nP A) d) t 10000), .int (nI t), un] [] h 0 0 _) (n := n) ?_ (fun t ht ih => ?_) 0 (Nat.zero_le _)
  · exact e_Es_oddsThatAllWake_6 hl h _ v _ _ _ ⟨fun _ => ⟨rfl, rfl⟩, fun c => absurd (Int32.le_refl _) c⟩
  · refine e_Es_oddsThatAllWake_6 hl h _ v _ _ _ ⟨fun c => absurd c (nI_ge ht hn), fun _ => ?_⟩
    simp only [lp] at ih
    generalize lp (fun _ d => oddS T A (nP A) d) t 10000 = d at *
    refine for_up (Q := fun p => Ev G m_Es_oddsThatAllWake 14 [.ref v, .int (nI n), .int (oddS T A p d), .int (nI t), .int (nI p)] [] h 0 0 _) (n := nP A) ?_ (fun p hp ih2 => ?_) 0 (Nat.zero_le _)
    · refine e_Es_oddsThatAllWake_14 hl h _ v _ _ _ _ ⟨_, V.f0, fun _ => ?_, fun c => absurd B.end_P c⟩
      rw [nI_1]; exact ih
    · unfold oddS at ih2 ⊢
      simp only [lp] at ih2
      refine e_Es_oddsThatAllWake_14 hl h _ v _ _ _ _ ⟨_, V.f0, fun c => absurd c (B.in_P hp), fun _ => ⟨V.kd, _, v_living hl V B hp, fun c => ?_, fun c => ⟨V.kd, _, v_fails hl V F L hp, by decide, ?_⟩⟩⟩
      · rw [nI_1]; rw [if_neg (ite0 c)] at ih2; exact ih2
      · rw [nI_1]; rw [if_pos (ite1 c)] at ih2; exact ih2
theorem e_standing (hl : G.1.stackTraces = false) (V : VlyAt h v A la) (F : Wf A) (L : LawOk G h la T) {p : Nat} (hp : p < nP A) (w : Int32) : EvI G m_Es_standing [.ref v, .int (nI p), .int w] h (amtF T A w p) := by
  refine en_Es_standing h _ v _ _ (e_Es_standing_0 hl h _ v _ _ ⟨fun c => ⟨fun d => ⟨V.kd, _, v_ownedBy hl V F.1 _, V.kd, _, v_worthOf hl V F.1 _, ?_, rfl⟩, fun d => ⟨V.kd, _, v_grips hl V F L hp, ?_, rfl⟩⟩, fun c => ⟨_, V.r1, _, V.a1 (F.1.P7 hp), ?_, rfl⟩⟩)
  · unfold amtF; rw [if_neg c, if_neg d]
  · unfold amtF; rw [if_neg c, if_pos d]
  · unfold amtF; rw [if_pos c]
theorem imax_pos (x : Int32) : ¬ imax 0 x < 0 := by
  unfold imax
  split
  · rename_i q; exact fun z => absurd (Int32.lt_trans q z) (by decide)
  · decide
theorem grip_pos {A : Vs} {T : Tt} {p : Nat} : ¬ gripF T A p < 0 := imax_pos _
def moF (T : Tt) (A : Vs) (w b : Int32) : Int32 := if b = -1 then -1 else amtF T A w b.toNatClampNeg
theorem amt_pos {A : Vs} (F : Wf A) (T : Tt) (w : Int32) {p : Nat} (hp : p < nP A) : ¬ amtF T A w p ≤ -1 := by
  intro z
  have z2 : amtF T A w p < 0 := by
    have : (-1 : Int32) < 0 := by decide
    exact Int32.lt_of_le_of_lt z this
  unfold amtF at z2
  split at z2
  · obtain ⟨k, hk, e⟩ := (F.2.2.1 p hp).2.2.1
    rw [e] at z2; exact nI_pos (by omega) z2
  · split at z2
    · exact grip_pos z2
    · obtain ⟨k, hk, e⟩ := worth_rg F (ownF A (nI p))
      rw [e] at z2; exact nI_pos (by omega) z2
theorem mst_rg {A : Vs} {T : Tt} {w : Int32} : ∀ n, lp (mstS T A w) n (-1) = -1 ∨ ∃ q, q < n ∧ lp (mstS T A w) n (-1) = nI q
  | 0 => Or.inl rfl
  | n + 1 => by
    simp only [lp]
    unfold mstS
    split
    · exact Or.inr ⟨n, by omega, rfl⟩
    · rcases mst_rg (A := A) (T := T) (w := w) n with e | ⟨q, hq, e⟩
      · exact Or.inl e
      · exact Or.inr ⟨q, by omega, e⟩
theorem e_foremost (hl : G.1.stackTraces = false) (V : VlyAt h v A la) (F : Wf A) (L : LawOk G h la T) (w : Int32) : EvI G m_Es_foremost [.ref v, .int w] h (mstF T A w) := by
  have B := F.1
  refine en_Es_foremost h _ v _ (e_Es_foremost_0 hl h _ v _ ?_)
  refine for_up (Q := fun t => Ev G m_Es_foremost 7 [.ref v, .int w, .int (lp (mstS T A w) t (-1)), .int (moF T A w (lp (mstS T A w) t (-1))), .int (nI t)] [] h 0 0 _) (n := nP A) ?_ (fun t ht ih => ?_) 0 (Nat.zero_le _)
  · exact e_Es_foremost_7 hl h _ v _ _ _ _ ⟨_, V.f0, fun _ => ⟨rfl, rfl⟩, fun c => absurd B.end_P c⟩
  · have rg := mst_rg (A := A) (T := T) (w := w) t
    simp only [lp] at ih
    generalize lp (mstS T A w) t (-1) = b at *
    have ht7 := B.P7 ht
    have stay : mstS T A w t b = b → Ev G m_Es_foremost 7 [.ref v, .int w, .int b, .int (moF T A w b), .int (nI t + 1)] [] h 0 0 (fun o h' => o = .inl (some (.int (mstF T A w))) ∧ h' = h) := fun e => by rw [e] at ih; rw [nI_1]; exact ih
    refine e_Es_foremost_7 hl h _ v _ _ _ _ ⟨_, V.f0, fun c => absurd c (B.in_P ht), fun _ => ⟨V.kd, _, v_living hl V B ht, fun c => stay ?_, fun c => ⟨_, e_standing hl V F L ht w, fun d => stay ?_, fun d => ⟨_, e_standing hl V F L ht w, ?_⟩⟩⟩⟩
    · unfold mstS; rw [if_neg (fun z => ite0 c z.1)]
    · unfold mstS; rw [if_neg]
      intro z
      unfold moF at d
      rcases rg with e | ⟨q, hq, e⟩
      · rw [e, if_pos rfl] at d; exact amt_pos F T w ht d
      · rw [if_neg (by rw [e]; exact m1_ne (by omega))] at d
        rcases z.2 with y | y
        · rw [e] at y; exact absurd y (m1_ne (by omega))
        · exact Int32.not_lt.mpr d y
    · have : mstS T A w t b = nI t := by
        unfold mstS; rw [if_pos]
        refine ⟨ite1 c, ?_⟩
        unfold moF at d
        by_cases e : b = -1
        · exact Or.inl e
        · rw [if_neg e] at d; exact Or.inr (Int32.not_le.mp d)
      unfold moF at ih
      rw [this, if_neg (m1_ne (by omega)), nI_clamp (by omega)] at ih
      rw [nI_1]; exact ih
end ES2
