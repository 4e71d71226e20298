/-! ===== the reference: nights ===== -/
def MLawOk (G : Gx) (h : Hp) (m : Nat) (T : Tt) : Prop := ∀ h', (∀ j, (j = 3 ∨ (394 ≤ j ∧ j < 1243)) → h'.2.1 (m + 1) j = h.2.1 (m + 1) j) → ∀ A, WldAt h' m A → Wf A → ∀ p k, p < nP A → k < 3 → EvM G m_Mo_sumOf [.ref m, .int (nI k), .int (nI p)] h' (mpostI m h' A (T A p (nI k)))
section MO3
variable {G : Gx} {h h' : Hp} {m : Nat} {A : Vs} {T : Tt}
theorem MLawOk.keep (L : MLawOk G h m T) (e : ∀ j, (j = 3 ∨ (394 ≤ j ∧ j < 1243)) → h'.2.1 (m + 1) j = h.2.1 (m + 1) j) : MLawOk G h' m T := fun h2 e2 => L h2 (fun j hj => (e2 j hj).trans (e j hj))
theorem MLawOk.keepF {P : Nat → Nat → Prop} (L : MLawOk G h m T) (x : Fs P h h') (n : ∀ j, (j = 3 ∨ (394 ≤ j ∧ j < 1243)) → ¬ P (m + 1) j) : MLawOk G h' m T := L.keep (fun j hj => x.2.2 (m + 1) j (n j hj))
theorem MLawOk.kw (L : MLawOk G h m T) (x : Fs (mW m) h h') : MLawOk G h' m T := L.keepF x (fun j hj z => by unfold mW at z; omega)
def swF (w : Nat → Int32) (k : Nat) : Nat → Int32 := fun j => if 94 + k < j ∧ j < 394 then w (j - 5) else w j
theorem o_isTold (hl : G.1.stackTraces = false) (hm : G.n0 ≤ m) (W : WldAt h m A) {p : Nat} (hp : p < 7) (what t : Int32) : EvM G m_Mo_isTold [.ref m, .int (nI p), .int what, .int t] h (mpost m h (logA A (A 0 2) (nI p) what t (A 1 p))) := by
  obtain ⟨w, W0, R⟩ := W.wat
  refine en_Mo_isTold h _ m _ _ _ (e_Mo_isTold_0 hl h _ m _ _ _ ?_)
  suffices hh : ∀ e, 4 + e ≤ 299 → ∀ h1, WAt h1 m (swF w (4 + e)) → Fs (mW m) h h1 → Ev G m_Mo_isTold 5 [.ref m, .int (nI p), .int what, .int t, .int (nI (4 + e))] [] h1 0 0 (mpost m h (logA A (A 0 2) (nI p) what t (A 1 p))) by
    refine hh 295 (by omega) h ⟨W0.1, fun j hj => ?_⟩ Fs.rf
    rw [W0.2 j hj]
    unfold swF
    rw [if_neg (by omega)]
  intro e
  induction e with
  | zero =>
    intro _ h1 W1 F1
    refine e_Mo_isTold_5 hl h1 _ m _ _ _ _ ⟨fun _ => ⟨_, W1.r1, _, W1.r1, _, W1.rd (n := 6) (by decide), W1.wr hm (n := 94) (by decide), ?_⟩, fun c => absurd (nI_lt (by decide : 4 + 0 < 5) (by decide)) c⟩
    have W2 := W1.set (i := 94) (x := swF w (4 + 0) 6)
    have F2 := F1.set (v := .int (swF w (4 + 0) 6)) (mW_at (m := m) (n := 94) (by decide) (by decide))
    refine e_Mo_isTold_53 hl _ _ m _ _ _ ⟨_, W2.r1, W2.wr hm (n := 95) (by decide), ?_⟩
    have W3 := W2.set (i := 95) (x := nI p)
    have F3 := F2.set (v := .int (nI p)) (mW_at (m := m) (n := 95) (by decide) (by decide))
    refine e_Mo_isTold_61 hl _ _ m _ _ _ ⟨_, W3.r1, W3.wr hm (n := 96) (by decide), ?_⟩
    have W4 := W3.set (i := 96) (x := what)
    have F4 := F3.set (v := .int what) (mW_at (m := m) (n := 96) (by decide) (by decide))
    refine e_Mo_isTold_69 hl _ _ m _ _ ⟨_, W4.r1, W4.wr hm (n := 97) (by decide), ?_⟩
    have W5 := W4.set (i := 97) (x := t)
    have F5 := F4.set (v := .int t) (mW_at (m := m) (n := 97) (by decide) (by decide))
    have ea : swF w (4 + 0) (9 + 5 * p) = A 1 p := by
      unfold swF; rw [if_neg (by omega), R 1 p (dP (by omega) hp), adP (f := 0) (by decide)]; rfl
    refine e_Mo_isTold_77 hl _ _ m _ ⟨_, W5.r1, W5.kd, A 1 p, ?_, W5.wr hm (n := 98) (by decide), ?_⟩
    · refine en_Mo_of _ _ m _ _ (e_Mo_of_0 hl _ _ m _ _ ⟨_, W5.r1, _, o_pAt hl p 0, A 1 p, ?_, rfl, rfl⟩)
      have := W5.rd (n := 9 + 5 * p + 0) (by omega)
      simp only [Nat.add_zero] at this ⊢
      rw [if_neg (by omega), if_neg (by omega), if_neg (by omega), if_neg (by omega), ea] at this
      exact this
    have W6 := W5.set (i := 98) (x := A 1 p)
    have F6 := F5.set (v := .int (A 1 p)) (mW_at (m := m) (n := 98) (by decide) (by decide))
    have e7 : swF w (4 + 0) 7 = A 0 7 := by unfold swF; rw [if_neg (by omega), R 0 7 (d0 (by decide))]; rfl
    have e6 : swF w (4 + 0) 6 = A 0 2 := by unfold swF; rw [if_neg (by omega), R 0 2 (d0 (by decide))]; rfl
    refine e_Mo_isTold_90 hl _ _ m ⟨_, W6.r1, _, W6.r1, A 0 7, ?_, W6.wr hm (n := 7) (by decide), rfl, ?_, F6.set (mW_at (by decide) (by decide))⟩
    · have := W6.rd (n := 7) (by decide)
      rw [if_neg (by decide), if_neg (by decide), if_neg (by decide), if_neg (by decide), if_neg (by decide), e7] at this
      exact this
    · refine WldAt.of (W6.set (i := 7) (x := imin 60 (A 0 7 + 1))) (fun k j hd => ?_)
      rcases ad_cases hd with ⟨rfl, a2, a3, a4⟩ | ⟨a1, a2, a3, a4⟩ | ⟨a1, a2, a3, a4⟩ | ⟨a1, a2, a3, a4⟩
      · by_cases z : j = 7
        · subst z
          rw [if_pos (show ad 0 7 = 7 by decide), imin_comm]
          unfold logA
          rw [if_neg (by decide), if_pos ⟨rfl, rfl⟩]
        · rw [logA_lo (by omega), R 0 j hd, if_neg (show ¬ ad 0 j = 7 from fun q => z (ad0_inj j a2 7 (by decide) q)), if_neg (by omega), if_neg (by omega), if_neg (by omega), if_neg (by omega), if_neg (by omega)]
          unfold swF
          rw [if_neg (by omega)]
      · rw [logA_lo (by omega), R k j hd, if_neg (by omega), if_neg (by omega), if_neg (by omega), if_neg (by omega), if_neg (by omega), if_neg (by omega)]
        unfold swF
        rw [if_neg (by omega)]
      · rw [logA_lo (by omega), R k j hd, if_neg (by omega), if_neg (by omega), if_neg (by omega), if_neg (by omega), if_neg (by omega), if_neg (by omega)]
        unfold swF
        rw [if_neg (by omega)]
      · obtain ⟨i, rfl⟩ : ∃ i, k = 20 + i := ⟨k - 20, by omega⟩
        have hi : i < 5 := by omega
        rw [a4, show 20 + i - 20 = i by omega]
        cases j with
        | zero =>
          have hw : i = 0 ∨ i = 1 ∨ i = 2 ∨ i = 3 ∨ i = 4 := by omega
          rcases hw with rfl | rfl | rfl | rfl | rfl <;> simp [logA, e6]
        | succ j =>
          have hd' : dom (20 + i) j := Or.inr (Or.inr (Or.inr ⟨by omega, by omega, by omega⟩))
          rw [if_neg (by omega), if_neg (by omega), if_neg (by omega), if_neg (by omega), if_neg (by omega), if_neg (by omega)]
          unfold swF logA
          rw [if_pos (by omega), if_pos (by omega)]
          show A (20 + i) j = _
          rw [R (20 + i) j hd']
          congr 1
          unfold ad
          rw [if_neg (by omega), if_neg (by omega), if_neg (by omega)]
          omega
  | succ e ih =>
    intro he h1 W1 F1
    have i1 : (94 : Int32) + nI (4 + (e + 1)) = nI (94 + (4 + (e + 1))) := nI_add 94 _
    have i2 : (94 : Int32) + nI (4 + (e + 1)) - 5 = nI (94 + (4 + e) - 4) := by
      rw [i1, show (5 : Int32) = nI 5 from rfl, pk_sub (by omega)]
      exact congrArg nI (by omega)
    refine e_Mo_isTold_5 hl h1 _ m _ _ _ _ ⟨fun c => absurd c (nI_nlt (by omega : 5 ≤ 4 + (e + 1)) (by omega)), fun _ => ⟨_, W1.r1, _, W1.r1, _, by rw [i2]; exact W1.rd (by omega), by rw [i1]; exact W1.wr hm (by omega), ?_⟩⟩
    rw [i1, nI_clamp (by omega)]
    refine e_Mo_isTold_33 hl _ _ m _ _ _ _ ?_
    rw [show nI (4 + (e + 1)) + -1 = nI (4 + e) from pk_m1 (4 + e)]
    refine ih (by omega) _ ⟨?_, ?_⟩ (F1.set (mW_at (by omega) (by omega)))
    · exact W1.set.1
    · intro j hj
      have := (W1.set (i := 94 + (4 + (e + 1))) (x := swF w (4 + (e + 1)) (94 + (4 + e) - 4))).2 j hj
      rw [this]
      congr 1
      dsimp only
      unfold swF
      by_cases z : j = 94 + (4 + (e + 1))
      · rw [if_pos z, if_neg (by omega), if_pos (by omega)]
        congr 1
        omega
      · rw [if_neg z]
        by_cases z2 : 94 + (4 + (e + 1)) < j ∧ j < 394
        · rw [if_pos z2, if_pos (by omega)]
        · rw [if_neg z2, if_neg (by omega)]
theorem b_32767 : ∀ i, i < 32 → bt 32767 i = decide (i < 15) := by decide +kernel
theorem sr16 (x : Int32) : (x >>> ((16 : Int32) &&& 31)) &&& 32767 = us x 16 &&& 32767 := by
  refine b_ext (fun i hi => ?_)
  rw [b_and, b_and, b_32767 i hi]
  by_cases h : i < 15
  · have e1 := b_sshr 16 (by decide) x hi
    have e2 := b_ushr 16 (by decide) x i
    rw [if_pos (by omega)] at e1
    show (bt (x >>> (nI 16 &&& 31)) i && _) = (bt ((x.toUInt32 >>> ((nI 16).toUInt32 &&& Int32.toUInt32 31)).toInt32) i && _)
    rw [e1, e2]
  · simp [h]
theorem o_drawn (hl : G.1.stackTraces = false) (hm : G.n0 ≤ m) (W : WldAt h m A) {n : Int32} (hn : ¬ n = 0) : EvM G m_Mo_drawn [.ref m, .int n] h (mpostI m h (up A 0 5 (sdF (A 0 5))) (rm (drF (A 0 5)) n)) := by
  refine en_Mo_drawn h _ m _ (e_Mo_drawn_0 hl h _ m _ ⟨_, W.r1, _, W.r1, _, W.at (k := 0) (j := 5) (d0 (by decide)) rfl, W.wr hm (n := 8) (by decide), ?_⟩)
  have e : (1103515245 : Int32) * A 0 5 + 12345 = sdF (A 0 5) := by unfold sdF; rw [Int32.mul_comm]
  have W1 := W.set (k := 0) (j := 5) (n := 8) (d0 (by decide)) rfl (sdF (A 0 5))
  have r := W1.at (k := 0) (j := 5) (n := 8) (d0 (by decide)) rfl
  rw [up_same] at r
  rw [e, show Int32.toNatClampNeg (8 : Int32) = 8 by decide]
  refine e_Mo_drawn_21 hl _ _ m _ ⟨_, W1.r1, sdF (A 0 5), r, hn, ?_, W1, Fs.rf.set (mW_at (by decide) (by decide))⟩
  rw [sr16]
  rfl
theorem o_gripsOf (hl : G.1.stackTraces = false) (W : WldAt h m A) (F : Wf A) (L : MLawOk G h m T) {p : Nat} (hp : p < nP A) : EvM G m_Mo_gripsOf [.ref m, .int (nI p)] h (mpostI m h A (gripF T A p)) := by
  have hp7 := F.1.P7 hp
  refine en_Mo_gripsOf h _ m _ (e_Mo_gripsOf_0 hl h _ m _ ⟨W.kd, _, o_of hl W hp7 (f := 1) (by decide), W.kd, _, o_of hl W hp7 (f := 3) (by decide), W.kd, _, L h (fun _ _ => rfl) A W F p 0 hp (by decide), fun o1 h1 z => Or.inl ?_⟩)
  obtain ⟨z1, W1, F1⟩ := z
  have L1 := L.kw F1
  refine ⟨_, z1, W1.kd, _, L1 h1 (fun _ _ => rfl) A W1 F p 1 hp (by decide), fun o2 h2 z => Or.inl ?_⟩
  obtain ⟨z2, W2, F2⟩ := z
  refine ⟨_, z2, ?_, W2, F1.tr F2⟩
  have e4 : A 4 p = if A 4 p = 1 then 1 else 0 := by
    rcases (F.2.2.1 p hp).1 with q | q
    · rw [q, if_neg (by decide)]
    · rw [q, if_pos rfl]
  show Sum.inl (some (Value.int (imax 0 (A 2 p + 2 * A 4 p + T A p (nI 0) - T A p (nI 1))))) = _
  unfold gripF
  rw [← e4, Int32.mul_comm]
theorem o_failsOf (hl : G.1.stackTraces = false) (W : WldAt h m A) (F : Wf A) (L : MLawOk G h m T) {p : Nat} (hp : p < nP A) : EvM G m_Mo_failsOf [.ref m, .int (nI p)] h (mpostI m h A (failF T A p)) := by
  have hp7 := F.1.P7 hp
  refine en_Mo_failsOf h _ m _ (e_Mo_failsOf_0 hl h _ m _ ⟨_, W.r1, _, W.at (k := 0) (j := 3) (n := 4) (d0 (by decide)) rfl, W.kd, _, o_of hl W hp7 (f := 0) (by decide), by decide, W.kd, _, L h (fun _ _ => rfl) A W F p 2 hp (by decide), fun o1 h1 z => Or.inl ?_⟩)
  obtain ⟨z1, W1, F1⟩ := z
  exact ⟨_, z1, rfl, W1, F1⟩
theorem o_canHold (hl : G.1.stackTraces = false) (W : WldAt h m A) (F : Wf A) (L : MLawOk G h m T) {p t : Nat} (hp : p < nP A) (ht : t < nT A) : EvM G m_Mo_canHold [.ref m, .int (nI p), .int (nI t)] h (mpostI m h A (if gripF T A p < A 7 t then 0 else 1)) := by
  refine en_Mo_canHold h _ m _ _ (e_Mo_canHold_0 hl h _ m _ _ ⟨W.kd, _, o_ofThing hl W (F.1.T10 ht) (f := 1) (by decide), W.kd, _, o_gripsOf hl W F L hp, fun o1 h1 z => Or.inl ?_⟩)
  obtain ⟨z1, W1, F1⟩ := z
  exact ⟨_, z1, fun c => ⟨by rw [if_pos c], W1, F1⟩, fun c => ⟨by rw [if_neg c], W1, F1⟩⟩
theorem o_letGo (hl : G.1.stackTraces = false) (hm : G.n0 ≤ m) (W : WldAt h m A) (F : Wf A) (L : MLawOk G h m T) : EvM G m_Mo_allLetGo [.ref m] h (mpost m h (letF T A)) := by
  refine en_Mo_allLetGo h _ m (e_Mo_allLetGo_0 hl h _ m ?_)
  refine for_up (Q := fun t => ∀ h1, WldAt h1 m (lp (letS T) t A) → Fs (mW m) h h1 → Ev G m_Mo_allLetGo 2 [.ref m, .int (nI t), un] [] h1 0 0 _) (n := nP A) (fun h1 W1 F1 => ?_) (fun t ht ih h1 W1 F1 => ?_) 0 (Nat.zero_le _) h W Fs.rf
  · obtain ⟨Q1, K1⟩ := F.let' T (nP A) (Nat.le_refl _)
    exact e_Mo_allLetGo_2 hl h1 _ m _ ⟨W1.kd, _, o_people hl W1, fun _ => ⟨rfl, W1, F1⟩, fun c => absurd (by have := Q1.1.end_P; rw [K1.1] at this; exact this) c⟩
  · obtain ⟨Q1, K1⟩ := F.let' T t (Nat.le_of_lt ht)
    have L1 := L.kw F1
    have hp : t < nP (lp (letS T) t A) := by rw [K1.1]; exact ht
    generalize hA : lp (letS T) t A = A1 at *
    have ih : ∀ h1, WldAt h1 m (letS T t A1) → Fs (mW m) h h1 → Ev G m_Mo_allLetGo 2 [.ref m, .int (nI (t + 1)), un] [] h1 0 0 (mpost m h (letF T A)) := fun h2 W2 F2 => ih h2 (by show WldAt h2 m (letS T t (lp (letS T) t A)); rw [hA]; exact W2) F2
    have hp7 := Q1.1.P7 hp
    refine e_Mo_allLetGo_2 hl h1 _ m _ ⟨W1.kd, _, o_people hl W1, fun c => absurd c (Q1.1.in_P hp), fun _ => ⟨W1.kd, _, o_lives hl W1 hp7, fun c => ⟨fun _ => ?_, fun g => absurd rfl g⟩, fun c => ⟨W1.kd, _, o_heldBy hl W1 Q1 _, fun d => ?_, fun d => ?_⟩⟩⟩
    · rw [nI_1]; exact ih h1 (by unfold letS; rw [if_neg (ite0 c)]; exact W1) F1
    · rw [nI_1]; exact ih h1 (by unfold letS; rw [if_pos (ite1 c), if_pos d]; exact W1) F1
    · rcases holdF_spec A1 (nI t) with ⟨e, -⟩ | ⟨u, hu, e, -, -⟩
      · exact absurd e d
      · have hu10 := Q1.1.T10 hu
        have hcl : (holdF A1 (nI t)).toNatClampNeg = u := by rw [e]; exact nI_clamp (by omega)
        refine ⟨W1.kd, A1 7 u, by rw [e]; exact o_ofThing hl W1 hu10 (f := 1) (by decide), W1.kd, _, o_gripsOf hl W1 Q1 L1 hp, fun o2 h2 z => Or.inl ?_⟩
        obtain ⟨z1, W2, F2⟩ := z
        refine ⟨_, z1, fun f => ⟨W2.kd, _, by rw [e]; exact o_lies hl hm W2 hu10 2 (nI t) (fun q => absurd q (by decide)), fun o3 h3 y => Or.inl ?_⟩, fun f => ?_⟩
        · obtain ⟨y1, W3, F3⟩ := y
          refine ⟨y1, W3.kd, _, by rw [e]; exact o_isTold hl hm W3 hp7 0 (nI u), fun o4 h4 x => Or.inl ?_⟩
          obtain ⟨x1, W4, F4⟩ := x
          refine ⟨x1, ?_⟩
          rw [nI_1]
          refine ih h4 ?_ (((F1.tr F2).tr F3).tr F4)
          unfold letS
          rw [if_pos (ite1 c), if_neg d, hcl, if_neg (Int32.not_le.mpr f), e]
          rw [mvA_ne (by omega), mvA_ne (by omega)] at W4
          exact W4
        · rw [nI_1]; exact ih h2 (by unfold letS; rw [if_pos (ite1 c), if_neg d, hcl, if_pos (Int32.not_lt.mp f)]; exact W2) (F1.tr F2)
end MO3
