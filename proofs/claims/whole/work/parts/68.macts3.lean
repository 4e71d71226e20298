/-! ===== the reference: undone, an image, nights ahead ===== -/
section MACT3
variable {G : Gx} {h h' g : Hp} {m : Nat} {A A' : Vs} {T : Tt} {ln : Int32} {im : Option Sv} {pa : Nat → Vs} {r : Nat}
theorem p_undo0 (hl : G.1.stackTraces = false) (hm : G.n0 ≤ m) (M : MV G h m A T ln im pa 0) : EvM G m_Mo_undo [.ref m] h (fun o h' => o = .inl (some (.int 0)) ∧ MV G h' m A T ln im pa 0 ∧ Fs (mA m) h h') := by
  have M0 := M.thr 0
  exact en_Mo_undo h _ m (e_Mo_undo_0 hl h _ m ⟨⟨hm, M.W.kd⟩, e_Mo_undo_5 hl _ _ m ⟨_, ⟨M0.W.kd, M0.2.2.2.1.2⟩, fun q => absurd rfl q, fun _ => ⟨rfl, M0, mA_0⟩⟩⟩)
theorem p_undo1 (hl : G.1.stackTraces = false) (hm : G.n0 ≤ m) (M : MV G h m A T ln im pa (r + 1)) : EvM G m_Mo_undo [.ref m] h (fun o h' => o = .inl (some (.int 1)) ∧ MV G h' m (pa 0) T ln im (fun i => pa (i + 1)) r ∧ Fs (mA m) h h') := by
  have M0 := M.thr 0
  obtain ⟨W, L, I, ⟨r1, r2⟩, c5, sn⟩ := M0
  obtain ⟨w0, Wa, -⟩ := W.wat
  obtain ⟨w, w1, w2, w3⟩ := sn 0 (by omega)
  rw [show r + 1 - 1 - 0 = r by omega] at w1
  have e1 : nI (r + 1) - 1 = nI r := pk_sub (a := r + 1) (b := 1) (by omega)
  refine en_Mo_undo h _ m (e_Mo_undo_0 hl h _ m ⟨⟨hm, M.W.kd⟩, e_Mo_undo_5 hl _ _ m ⟨_, ⟨W.kd, r2⟩, fun _ => ⟨_, ⟨W.kd, r2⟩, ⟨hm, W.kd⟩, ?_⟩, fun q => absurd q (nI_ne0 (by omega) (by omega))⟩⟩)
  rw [e1]
  refine e_Mo_undo_24 hl _ _ m ?_
  have F0 : Fs (mA m) h (hset (hset h m 0 (.int 0)) m 7 (.int (nI r))) := mA_0.set (Or.inl ⟨rfl, Or.inr (Or.inr rfl)⟩)
  generalize hg : hset (hset h m 0 (.int 0)) m 7 (.int (nI r)) = g1 at *
  have eg : ∀ a j, ¬ (a = m ∧ j = 7) → g1.2.1 a j = (hset h m 0 (.int 0)).2.1 a j := fun a j n => by rw [← hg]; exact hs_ne n
  have e7 : g1.2.1 m 7 = .int (nI r) := by rw [← hg]; exact hs_eq
  have es : g1.1 = (hset h m 0 (.int 0)).1 := by rw [← hg]; rfl
  generalize hset h m 0 (.int 0) = h0 at *
  have k : ∀ t a j, a ≠ m + 1 → ¬ (a = m ∧ j = 7) → (cpO g1 (m + 1) 0 (m + 5) (394 * r) t).2.1 a j = h0.2.1 a j := fun t a j n1 n2 => by rw [cpO_ne n1]; exact eg a j n2
  have sh : ∀ t, (cpO g1 (m + 1) 0 (m + 5) (394 * r) t).1 = h0.1 := fun t => es
  have kd : ∀ t, ((cpO g1 (m + 1) 0 (m + 5) (394 * r) t).1 m).1 = 11 := fun t => by rw [sh]; exact W.kd
  have rd : ∀ j, j < 394 → g1.2.1 (m + 5) (394 * r + j) = .int (w j) := fun j hj => by rw [eg _ _ (by omega)]; exact w1 j hj
  have step : Ev G m_Mo_undo 26 [.ref m, .int (nI 0)] [] (cpO g1 (m + 1) 0 (m + 5) (394 * r) 0) 0 0 (fun o h' => o = .inl (some (.int 1)) ∧ MV G h' m (pa 0) T ln im (fun i => pa (i + 1)) r ∧ Fs (mA m) h h') := by
    refine for_up (Q := fun t => Ev G m_Mo_undo 26 [.ref m, .int (nI t)] [] (cpO g1 (m + 1) 0 (m + 5) (394 * r) t) 0 0 _) (n := 394) ?_ (fun t ht ih => ?_) 0 (Nat.zero_le _)
    · refine e_Mo_undo_26 hl _ _ m _ ⟨fun _ => ⟨rfl, ?_, F0.tr (cpO_Fs (fun j _ _ => by unfold mA; omega))⟩, fun c => absurd (by decide) c⟩
      have lo : ∀ j, j < 394 → (cpO g1 (m + 1) 0 (m + 5) (394 * r) 394).2.1 (m + 1) j = .int (w j) := fun j hj => by
        have := cpO_in (h := g1) (a := m + 1) (da := 0) (b := m + 5) (sb := 394 * r) (t := 394) hj
        rw [Nat.zero_add] at this
        rw [this]; exact rd j hj
      have hi : ∀ j, 394 ≤ j → (cpO g1 (m + 1) 0 (m + 5) (394 * r) 394).2.1 (m + 1) j = h0.2.1 (m + 1) j := fun j hj => by rw [cpO_out (by omega)]; exact eg _ _ (by omega)
      have e3 : (cpO g1 (m + 1) 0 (m + 5) (394 * r) 394).2.1 (m + 1) 3 = h0.2.1 (m + 1) 3 := by rw [lo 3 (by omega)]; exact w3
      refine ⟨⟨W.1.keep (fun a _ _ => by rw [sh]) (fun j hj => k _ _ _ (by omega) (by omega)), fun j => if j < 394 then w j else w0 j, fun j hj => ?_, fun k' j' hd => ?_⟩, L.congr (fun j hj => ?_), I.keep (k _ _ _ (by omega) (by omega)) (fun j _ => k _ _ _ (by omega) (by omega)), ⟨by omega, by rw [cpO_ne (by omega)]; exact e7⟩, fun j hj => by rw [k _ _ _ (by omega) (by omega)]; exact c5 j hj, fun i hi' => ?_⟩
      · by_cases z : j < 394
        · dsimp only; rw [lo j z, if_pos z]
        · dsimp only; rw [hi j (by omega), if_neg z]; exact Wa.2 j hj
      · dsimp only; rw [if_pos (ad_lt hd)]; exact w2 k' j' hd
      · rcases hj with rfl | hj
        · exact e3
        · exact hi j (by omega)
      · rw [e3]
        have := sn (i + 1) (by omega)
        rw [show r + 1 - 1 - (i + 1) = r - 1 - i by omega] at this
        exact this.keep (fun j _ => k _ _ _ (by omega) (by omega))
    · have ix : (394 : Int32) * nI r + nI t = nI (394 * r + t) := by rw [show (394 : Int32) = nI 394 from rfl, pk_mul, nI_add]
      refine e_Mo_undo_26 hl _ _ m _ ⟨fun c => absurd c (nI_ge ht (by decide)), fun _ => ⟨m + 1, ⟨kd t, by rw [k _ _ _ (by omega) (by omega)]; exact W.r1.2⟩, m + 5, ⟨kd t, by rw [k _ _ _ (by omega) (by omega)]; exact W.1.1.2.2.2.2.2.1⟩, nI r, ⟨kd t, by rw [cpO_ne (by omega)]; exact e7⟩, w t, ?_, ?_, ?_⟩⟩
      · rw [ix]
        exact aI_of (n := 4728) (by rw [sh]; exact W.1.2.2.2.2.2.1) (by omega) (by decide) (by rw [cpO_ne (by omega)]; exact rd t ht)
      · exact aW_of (n := 2092) (by omega) (by rw [sh]; exact W.1.2.1) (by omega) (by decide)
      · rw [nI_clamp (by omega)]
        refine e_Mo_undo_54 hl _ _ m _ ?_
        rw [nI_1]
        have es := cpO_s (h := g1) (a := m + 1) (da := 0) (b := m + 5) (sb := 394 * r) (t := t)
        rw [rd t ht, Nat.zero_add] at es
        rw [es]; exact ih
  rw [cpO_0] at step
  exact step
theorem p_image (hl : G.1.stackTraces = false) (hm : G.n0 ≤ m) (M : MV G h m A T ln im pa r) : EvM G m_Mo_image [.ref m] h (fun o h' => o = .inl none ∧ MV G h' m A T ln (some (A, T, ln)) pa r ∧ Fs (mA m) h h') := by
  have M0 := M.thr 0
  obtain ⟨W, L, I, ⟨r1, r2⟩, c5, sn⟩ := M0
  obtain ⟨w, Wa, wr⟩ := W.wat
  refine en_Mo_image h _ m (e_Mo_image_0 hl h _ m ⟨⟨hm, M.W.kd⟩, e_Mo_image_5 hl _ _ m ?_⟩)
  have F0 : Fs (mA m) h (hset h m 0 (.int 0)) := mA_0
  generalize hset h m 0 (.int 0) = h0 at *
  have k : ∀ t a j, a ≠ m + 2 → (cpO h0 (m + 2) 0 (m + 1) 0 t).2.1 a j = h0.2.1 a j := fun t a j n1 => by rw [cpO_ne n1]
  have sh : ∀ t, (cpO h0 (m + 2) 0 (m + 1) 0 t).1 = h0.1 := fun t => rfl
  have kd : ∀ t, ((cpO h0 (m + 2) 0 (m + 1) 0 t).1 m).1 = 11 := fun t => W.kd
  have step : Ev G m_Mo_image 7 [.ref m, .int (nI 0)] [] (cpO h0 (m + 2) 0 (m + 1) 0 0) 0 0 (fun o h' => o = .inl none ∧ MV G h' m A T ln (some (A, T, ln)) pa r ∧ Fs (mA m) h h') := by
    refine for_up (Q := fun t => Ev G m_Mo_image 7 [.ref m, .int (nI t)] [] (cpO h0 (m + 2) 0 (m + 1) 0 t) 0 0 _) (n := 1243) ?_ (fun t ht ih => ?_) 0 (Nat.zero_le _)
    · refine e_Mo_image_7 hl _ _ m _ ⟨fun _ => ⟨⟨hm, kd 1243⟩, rfl, ?_, (F0.tr (cpO_Fs (fun j _ _ => by unfold mA; omega))).set (Or.inl ⟨rfl, Or.inr (Or.inl rfl)⟩)⟩, fun c => absurd (by decide) c⟩
      have row : ∀ j, j < 1243 → (hset (cpO h0 (m + 2) 0 (m + 1) 0 1243) m 6 (.int 1)).2.1 (m + 2) j = h0.2.1 (m + 1) j := fun j hj => by
        rw [hs_ne (by omega)]
        have := cpO_in (h := h0) (a := m + 2) (da := 0) (b := m + 1) (sb := 0) (t := 1243) hj
        rw [Nat.zero_add] at this
        exact this
      have k' : ∀ a j, a ≠ m + 2 → ¬ (a = m ∧ j = 6) → (hset (cpO h0 (m + 2) 0 (m + 1) 0 1243) m 6 (.int 1)).2.1 a j = h0.2.1 a j := fun a j n1 n2 => by rw [hs_ne n2]; exact k _ _ _ n1
      have L' := L.congr (c' := (hset (cpO h0 (m + 2) 0 (m + 1) 0 1243) m 6 (.int 1)).2.1 (m + 2)) (fun j hj => row j (by omega))
      refine ⟨W.keep (fun a _ _ => rfl) (fun j hj => k' _ _ (by omega) (by omega)) (fun j _ => k' _ _ (by omega) (by omega)), L.congr (fun j hj => k' _ _ (by omega) (by omega)), ⟨hs_eq, ⟨w, fun j hj => by rw [row j hj]; exact Wa.2 j (by omega), wr⟩, L'⟩, ⟨r1, by rw [k' _ _ (by omega) (by omega)]; exact r2⟩, fun j hj => by rw [k' _ _ (by omega) (by omega)]; exact c5 j hj, fun i hi => ?_⟩
      rw [k' _ _ (by omega) (by omega)]
      exact (sn i hi).keep (fun j _ => k' _ _ (by omega) (by omega))
    · refine e_Mo_image_7 hl _ _ m _ ⟨fun c => absurd c (nI_ge ht (by decide)), fun _ => ⟨m + 2, ⟨kd t, by rw [k _ _ _ (by omega)]; exact W.1.1.2.2.1⟩, m + 1, ⟨kd t, by rw [k _ _ _ (by omega)]; exact W.r1.2⟩, w t, aI_of (n := 2092) W.1.2.1 (by omega) (by decide) (by rw [k _ _ _ (by omega)]; exact Wa.2 t (by omega)), aW_of (n := 1243) (by omega) W.1.2.2.1 (by omega) (by decide), ?_⟩⟩
      rw [nI_clamp (by omega)]
      refine e_Mo_image_26 hl _ _ m _ ?_
      rw [nI_1]
      have es := cpO_s (h := h0) (a := m + 2) (da := 0) (b := m + 1) (sb := 0) (t := t)
      rw [show h0.2.1 (m + 1) (0 + t) = .int (w t) by rw [Nat.zero_add]; exact Wa.2 t (by omega), Nat.zero_add] at es
      rw [es]; exact ih
  rw [cpO_0] at step
  exact step
theorem p_back0 (hl : G.1.stackTraces = false) (hm : G.n0 ≤ m) (M : MV G h m A T ln none pa r) : EvM G m_Mo_back [.ref m] h (fun o h' => o = .inl (some (.int 0)) ∧ MV G h' m A T ln none pa r ∧ Fs (mA m) h h') := by
  have M0 := M.thr 0
  exact en_Mo_back h _ m (e_Mo_back_0 hl h _ m ⟨⟨hm, M.W.kd⟩, e_Mo_back_5 hl _ _ m ⟨_, ⟨M0.W.kd, M0.2.2.1⟩, fun q => absurd rfl q, fun _ => ⟨rfl, M0, mA_0⟩⟩⟩)
theorem p_back1 (hl : G.1.stackTraces = false) (hm : G.n0 ≤ m) {B : Sv} (M : MV G h m A T ln (some B) pa r) (pa' : Nat → Vs) : EvM G m_Mo_back [.ref m] h (fun o h' => o = .inl (some (.int 1)) ∧ MV G h' m B.1 B.2.1 B.2.2 (some B) pa' 0 ∧ Fs (mA m) h h') := by
  have M0 := M.thr 0
  obtain ⟨W, L, ⟨I1, ⟨w, w1, w2⟩, IL⟩, ⟨r1, r2⟩, c5, sn⟩ := M0
  obtain ⟨w0, Wa, -⟩ := W.wat
  refine en_Mo_back h _ m (e_Mo_back_0 hl h _ m ⟨⟨hm, M.W.kd⟩, e_Mo_back_5 hl _ _ m ⟨_, ⟨W.kd, I1⟩, fun _ => ?_, fun q => absurd q (by decide)⟩⟩)
  have F0 : Fs (mA m) h (hset h m 0 (.int 0)) := mA_0
  generalize hset h m 0 (.int 0) = h0 at *
  have k : ∀ t a j, a ≠ m + 1 → (cpO h0 (m + 1) 0 (m + 2) 0 t).2.1 a j = h0.2.1 a j := fun t a j n1 => by rw [cpO_ne n1]
  have kd : ∀ t, ((cpO h0 (m + 1) 0 (m + 2) 0 t).1 m).1 = 11 := fun t => W.kd
  have step : Ev G m_Mo_back 16 [.ref m, .int (nI 0)] [] (cpO h0 (m + 1) 0 (m + 2) 0 0) 0 0 (fun o h' => o = .inl (some (.int 1)) ∧ MV G h' m B.1 B.2.1 B.2.2 (some B) pa' 0 ∧ Fs (mA m) h h') := by
    refine for_up (Q := fun t => Ev G m_Mo_back 16 [.ref m, .int (nI t)] [] (cpO h0 (m + 1) 0 (m + 2) 0 t) 0 0 _) (n := 1243) ?_ (fun t ht ih => ?_) 0 (Nat.zero_le _)
    · refine e_Mo_back_16 hl _ _ m _ ⟨fun _ => ⟨⟨hm, kd 1243⟩, e_Mo_back_46 hl _ _ ⟨rfl, ?_, (F0.tr (cpO_Fs (fun j _ _ => by unfold mA; omega))).set (Or.inl ⟨rfl, Or.inr (Or.inr rfl)⟩)⟩⟩, fun c => absurd (by decide) c⟩
      have k' : ∀ a j, a ≠ m + 1 → ¬ (a = m ∧ j = 7) → (hset (cpO h0 (m + 1) 0 (m + 2) 0 1243) m 7 (.int 0)).2.1 a j = h0.2.1 a j := fun a j n1 n2 => by rw [hs_ne n2]; exact k _ _ _ n1
      have lo : ∀ j, j < 1243 → (hset (cpO h0 (m + 1) 0 (m + 2) 0 1243) m 7 (.int 0)).2.1 (m + 1) j = h0.2.1 (m + 2) j := fun j hj => by
        rw [hs_ne (by omega)]
        have := cpO_in (h := h0) (a := m + 1) (da := 0) (b := m + 2) (sb := 0) (t := 1243) hj
        rw [Nat.zero_add] at this
        exact this
      have hi : ∀ j, 1243 ≤ j → (hset (cpO h0 (m + 1) 0 (m + 2) 0 1243) m 7 (.int 0)).2.1 (m + 1) j = h0.2.1 (m + 1) j := fun j hj => by rw [hs_ne (by omega), cpO_out (by omega)]
      have r2' : ∀ j, (hset (cpO h0 (m + 1) 0 (m + 2) 0 1243) m 7 (.int 0)).2.1 (m + 2) j = h0.2.1 (m + 2) j := fun j => k' _ _ (by omega) (by omega)
      refine ⟨⟨W.1.keep (fun a _ _ => rfl) (fun j hj => k' _ _ (by omega) (by omega)), fun j => if j < 1243 then w j else w0 j, fun j hj => ?_, fun k'' j'' hd => ?_⟩, IL.congr (fun j hj => lo j (by omega)), ⟨by rw [k' _ _ (by omega) (by omega)]; exact I1, ⟨w, fun j hj => by rw [r2']; exact w1 j hj, w2⟩, IL.congr (fun j _ => r2' j)⟩, ⟨by omega, hs_eq⟩, fun j hj => by rw [k' _ _ (by omega) (by omega)]; exact c5 j hj, fun i hi => absurd hi (Nat.not_lt_zero _)⟩
      · by_cases z : j < 1243
        · dsimp only; rw [lo j z, if_pos z]; exact w1 j z
        · dsimp only; rw [hi j (by omega), if_neg z]; exact Wa.2 j hj
      · dsimp only; rw [if_pos (by have := ad_lt hd; omega)]; exact w2 k'' j'' hd
    · refine e_Mo_back_16 hl _ _ m _ ⟨fun c => absurd c (nI_ge ht (by decide)), fun _ => ⟨m + 1, ⟨kd t, by rw [k _ _ _ (by omega)]; exact W.r1.2⟩, m + 2, ⟨kd t, by rw [k _ _ _ (by omega)]; exact W.1.1.2.2.1⟩, w t, aI_of (n := 1243) W.1.2.2.1 (by omega) (by decide) (by rw [k _ _ _ (by omega)]; exact w1 t ht), aW_of (n := 2092) (by omega) W.1.2.1 (by omega) (by decide), ?_⟩⟩
      rw [nI_clamp (by omega)]
      refine e_Mo_back_35 hl _ _ m _ ?_
      rw [nI_1]
      have es := cpO_s (h := h0) (a := m + 1) (da := 0) (b := m + 2) (sb := 0) (t := t)
      rw [show h0.2.1 (m + 2) (0 + t) = .int (w t) by rw [Nat.zero_add]; exact w1 t ht, Nat.zero_add] at es
      rw [es]; exact ih
  rw [cpO_0] at step
  exact step
end MACT3
