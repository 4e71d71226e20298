/-! ===== what the reference holds between calls; rows copied ===== -/
def Rw (h : Hp) (a : Nat) (c : Nat → Value) : Hp := (h.1, fun b j => if b = a then c j else h.2.1 b j, h.2.2)
theorem Rw_ne {h : Hp} {a b : Nat} {c : Nat → Value} (n : b ≠ a) : (Rw h a c).2.1 b = h.2.1 b := by
  funext j
  show (if b = a then c j else h.2.1 b j) = _
  rw [if_neg n]
theorem Rw_eq {h : Hp} {a : Nat} {c : Nat → Value} : (Rw h a c).2.1 a = c := by
  funext j
  show (if a = a then c j else h.2.1 a j) = _
  rw [if_pos rfl]
/-- t places of row b from sb on are in row a from da on -/
def cpO (h : Hp) (a da b sb t : Nat) : Hp := Rw h a (fun j => if da ≤ j ∧ j < da + t then h.2.1 b (sb + (j - da)) else h.2.1 a j)
section CPO
variable {h : Hp} {a da b sb t : Nat}
theorem cpO_0 : cpO h a da b sb 0 = h := by
  unfold cpO Rw
  have e : (fun b' j => if b' = a then (if da ≤ j ∧ j < da + 0 then h.2.1 b (sb + (j - da)) else h.2.1 a j) else h.2.1 b' j) = h.2.1 := by
    funext b' j
    split
    · rename_i z; rw [if_neg (by omega), z]
    · rfl
  rw [e]
theorem cpO_s : hset (cpO h a da b sb t) a (da + t) (h.2.1 b (sb + t)) = cpO h a da b sb (t + 1) := by
  unfold cpO Rw hset
  have e : (fun b' j => if b' = a ∧ j = da + t then h.2.1 b (sb + t) else (if b' = a then (if da ≤ j ∧ j < da + t then h.2.1 b (sb + (j - da)) else h.2.1 a j) else h.2.1 b' j)) = (fun b' j => if b' = a then (if da ≤ j ∧ j < da + (t + 1) then h.2.1 b (sb + (j - da)) else h.2.1 a j) else h.2.1 b' j) := by
    funext b' j
    by_cases c : b' = a
    · rw [if_pos c, if_pos c]
      by_cases d : j = da + t
      · rw [if_pos ⟨c, d⟩, if_pos (by omega), d, show da + t - da = t by omega]
      · rw [if_neg (fun z => d z.2)]
        by_cases f : da ≤ j ∧ j < da + t
        · rw [if_pos f, if_pos (by omega)]
        · rw [if_neg f, if_neg (by omega)]
    · rw [if_neg (fun z => c z.1), if_neg c, if_neg c]
  show (h.1, (fun b' j => if b' = a ∧ j = da + t then h.2.1 b (sb + t) else (if b' = a then (if da ≤ j ∧ j < da + t then h.2.1 b (sb + (j - da)) else h.2.1 a j) else h.2.1 b' j)), h.2.2) = _
  rw [e]
theorem cpO_ne {c : Nat} (n : c ≠ a) : (cpO h a da b sb t).2.1 c = h.2.1 c := Rw_ne n
theorem cpO_at (j : Nat) : (cpO h a da b sb t).2.1 a j = if da ≤ j ∧ j < da + t then h.2.1 b (sb + (j - da)) else h.2.1 a j := by
  show (if a = a then _ else _) = _
  rw [if_pos rfl]
theorem cpO_in {j : Nat} (hj : j < t) : (cpO h a da b sb t).2.1 a (da + j) = h.2.1 b (sb + j) := by
  rw [cpO_at, if_pos (by omega), show da + j - da = j by omega]
theorem cpO_out {j : Nat} (hj : j < da ∨ da + t ≤ j) : (cpO h a da b sb t).2.1 a j = h.2.1 a j := by
  rw [cpO_at, if_neg (by omega)]
theorem cpO_rd (n : b ≠ a ∨ sb + t < da ∨ da + t ≤ sb + t) : (cpO h a da b sb t).2.1 b (sb + t) = h.2.1 b (sb + t) := by
  by_cases c : b = a
  · subst c
    exact cpO_out (by omega)
  · rw [cpO_ne c]
theorem cpO_Fs {P : Nat → Nat → Prop} (p : ∀ j, da ≤ j → j < da + t → P a j) : Fs P h (cpO h a da b sb t) := ⟨rfl, Nat.le_refl _, fun c j n => by
  by_cases e : c = a
  · subst e
    by_cases d : da ≤ j ∧ j < da + t
    · exact absurd (p j d.1 d.2) n
    · exact cpO_out (by omega)
  · rw [cpO_ne e]⟩
end CPO
def MLwC (G : Gx) (m : Nat) (c : Nat → Value) (T : Tt) (ln : Int32) : Prop := (∀ h' : Hp, (∀ j, (j = 3 ∨ (394 ≤ j ∧ j < 1243)) → h'.2.1 (m + 1) j = c j) → ∀ A, WldAt h' m A → Wf A → ∀ p k, p < nP A → k < 3 → EvM G m_Mo_sumOf [.ref m, .int (nI k), .int (nI p)] h' (mpostI m h' A (T A p (nI k)))) ∧ ∃ w3 w4 : Int32, c 3 = .int w3 ∧ c 394 = .int w4 ∧ ln = (if w3 = 1 then w4 else -1)
theorem MLwC.congr {G : Gx} {m : Nat} {c c' : Nat → Value} {T : Tt} {ln : Int32} (L : MLwC G m c T ln) (e : ∀ j, (j = 3 ∨ (394 ≤ j ∧ j < 1243)) → c' j = c j) : MLwC G m c' T ln := by
  obtain ⟨L1, w3, w4, q1, q2, q3⟩ := L
  exact ⟨fun h' e' => L1 h' (fun j hj => (e' j hj).trans (e j hj)), w3, w4, by rw [e 3 (by omega)]; exact q1, by rw [e 394 (by omega)]; exact q2, q3⟩
/-- an earlier world, without its law -/
def SnAt (h : Hp) (a off : Nat) (A : Vs) (c3 : Value) : Prop := ∃ w : Nat → Int32, (∀ j, j < 394 → h.2.1 a (off + j) = .int (w j)) ∧ WRel A w ∧ .int (w 3) = c3
def ImM (G : Gx) (h : Hp) (m : Nat) (im : Option Sv) : Prop := match im with
  | none => h.2.1 m 6 = .int 0
  | some q => h.2.1 m 6 = .int 1 ∧ (∃ w : Nat → Int32, (∀ j, j < 1243 → h.2.1 (m + 2) j = .int (w j)) ∧ WRel q.1 w) ∧ MLwC G m (h.2.1 (m + 2)) q.2.1 q.2.2
def MV (G : Gx) (h : Hp) (m : Nat) (A : Vs) (T : Tt) (ln : Int32) (im : Option Sv) (pa : Nat → Vs) (r : Nat) : Prop :=
  WldAt h m A ∧ MLwC G m (h.2.1 (m + 1)) T ln ∧ ImM G h m im ∧ (r ≤ 12 ∧ h.2.1 m 7 = .int (nI r)) ∧ (∀ j, j < 4728 → ∃ y, h.2.1 (m + 5) j = .int y) ∧ ∀ i, i < r → SnAt h (m + 5) (394 * (r - 1 - i)) (pa i) (h.2.1 (m + 1) 3)
/-- what the reference's acts may change -/
def mA (m : Nat) : Nat → Nat → Prop := fun a j => (a = m ∧ (j = 0 ∨ j = 6 ∨ j = 7)) ∨ (m + 1 ≤ a ∧ a ≤ m + 5) ∨ (m + 8 ≤ a ∧ a ≤ m + 15)
theorem mU_A {m a j : Nat} (z : mU m a j) : mA m a j := by unfold mU mW at z; unfold mA; omega
def MA (G : Gx) (h : Hp) (m : Nat) (A : Vs) (T : Tt) (ln : Int32) (im : Option Sv) (pa : Nat → Vs) (r : Nat) (R : Ra) : Res → Hp → Prop := fun o h' => o = .inl (some (.int R.1.2)) ∧ h'.2.1 m 0 = .int R.1.1 ∧ Fs (mA m) h h' ∧ (match R.2 with
  | none => MV G h' m A T ln im pa r
  | some A' => MV G h' m A' T ln im (pcons A pa) (min (r + 1) 12))
section MST
variable {G : Gx} {h h' h1 : Hp} {m : Nat} {A A' : Vs} {T : Tt} {ln : Int32} {im : Option Sv} {pa : Nat → Vs} {r : Nat}
theorem MV.W (M : MV G h m A T ln im pa r) : WldAt h m A := M.1
theorem MV.L (M : MV G h m A T ln im pa r) : MLawOk G h m T := M.2.1.1
theorem SnAt.keep {a off : Nat} {c3 : Value} (S : SnAt h a off A c3) (e : ∀ j, j < 394 → h'.2.1 a (off + j) = h.2.1 a (off + j)) : SnAt h' a off A c3 := by
  obtain ⟨w, w1, w2, w3⟩ := S
  exact ⟨w, fun j hj => by rw [e j hj]; exact w1 j hj, w2, w3⟩
theorem ImM.keep (I : ImM G h m im) (e6 : h'.2.1 m 6 = h.2.1 m 6) (e2 : ∀ j, j < 1243 → h'.2.1 (m + 2) j = h.2.1 (m + 2) j) : ImM G h' m im := by
  unfold ImM at *
  cases im with
  | none => simp only at *; rw [e6]; exact I
  | some q =>
    obtain ⟨I1, ⟨w, w1, w2⟩, I3⟩ := I
    exact ⟨by rw [e6]; exact I1, ⟨w, fun j hj => by rw [e2 j hj]; exact w1 j hj, w2⟩, I3.congr (fun j hj => e2 j (by omega))⟩
/-- only the world, and what is reckoned beside it, has changed -/
theorem MV.rd (M : MV G h m A T ln im pa r) (W : WldAt h' m A') (F : Fs (mU m) h h') : MV G h' m A' T ln im pa r := by
  obtain ⟨W0, L, I, ⟨r1, r2⟩, c5, sn⟩ := M
  have k : ∀ a j, ¬ mU m a j → h'.2.1 a j = h.2.1 a j := F.2.2
  have k3 : h'.2.1 (m + 1) 3 = h.2.1 (m + 1) 3 := k _ _ (by unfold mU mW; omega)
  refine ⟨W, L.congr (fun j hj => k _ _ (by unfold mU mW; omega)), I.keep (k _ _ (by unfold mU mW; omega)) (fun j _ => k _ _ (by unfold mU mW; omega)), ⟨r1, by rw [k _ _ (by unfold mU mW; omega)]; exact r2⟩, fun j hj => by rw [k _ _ (by unfold mU mW; omega)]; exact c5 j hj, fun i hi => ?_⟩
  rw [k3]
  exact (sn i hi).keep (fun j _ => k _ _ (by unfold mU mW; omega))
theorem MV.thr (M : MV G h m A T ln im pa r) (c : Int32) : MV G (hset h m 0 (.int c)) m A T ln im pa r := M.rd (M.W.thr c) fU0
theorem MV.kw (M : MV G h m A T ln im pa r) (W : WldAt h' m A') (F : Fs (mW m) h h') : MV G h' m A' T ln im pa r := M.rd W (F.mono (fun _ _ => mW_U))
/-- nothing of it has changed -/
theorem MV.keep (M : MV G h m A T ln im pa r) {P : Nat → Nat → Prop} (F : Fs P h h') (n : ∀ a j, m ≤ a → a ≤ m + 5 → (a = m → j ≤ 8 ∨ j = 15 ∨ 17 ≤ j) → ¬ P a j) : MV G h' m A T ln im pa r := by
  obtain ⟨W0, L, I, ⟨r1, r2⟩, c5, sn⟩ := M
  have km : ∀ j, (j ≤ 8 ∨ j = 15 ∨ 17 ≤ j) → h'.2.1 m j = h.2.1 m j := fun j hj => F.2.2 m j (n m j (by omega) (by omega) (fun _ => hj))
  have k : ∀ a j, m + 1 ≤ a → a ≤ m + 5 → h'.2.1 a j = h.2.1 a j := fun a j h1 h2 => F.2.2 a j (n a j (by omega) h2 (fun z => by omega))
  refine ⟨W0.keep (fun a _ _ => by rw [F.1]) (fun j hj => km j (by omega)) (fun j _ => k _ _ (by omega) (by omega)), L.congr (fun j hj => k _ _ (by omega) (by omega)), I.keep (km 6 (by omega)) (fun j _ => k _ _ (by omega) (by omega)), ⟨r1, by rw [km 7 (by omega)]; exact r2⟩, fun j hj => by rw [k _ _ (by omega) (by omega)]; exact c5 j hj, fun i hi => ?_⟩
  rw [k (m + 1) 3 (by omega) (by omega)]
  exact (sn i hi).keep (fun j _ => k _ _ (by omega) (by omega))
theorem MA_mans (M : MV G h m A T ln im pa r) {q : Int32 × Int32} {o : Res} (z : mans m h A q o h') : MA G h m A T ln im pa r (q, none) o h' := by
  obtain ⟨z1, W, z2, F⟩ := z
  exact ⟨z1, z2, F.mono (fun _ _ => mU_A), M.rd W F⟩
theorem MA_no (M : MV G h m A T ln im pa r) (k : Int32) : MA G h m A T ln im pa r (no_ k) (.inl (some (.int 0))) (hset (hset h m 0 (.int 0)) m 0 (.int k)) :=
  ⟨rfl, hs_eq, (Fs.rf.set (Or.inl ⟨rfl, Or.inl rfl⟩)).set (Or.inl ⟨rfl, Or.inl rfl⟩), (M.thr 0).thr k⟩
def mrpost (G : Gx) (h : Hp) (m : Nat) (A : Vs) (T : Tt) (ln : Int32) (im : Option Sv) (pa : Nat → Vs) (r : Nat) : Res → Hp → Prop := fun o h' => o = .inl none ∧ MV G h' m A T ln im (pcons A pa) (min (r + 1) 12) ∧ Fs (mA m) h h' ∧ h'.2.1 m 0 = h.2.1 m 0
theorem o_remembers (hl : G.1.stackTraces = false) (hm : G.n0 ≤ m) (M : MV G h m A T ln im pa r) : EvM G m_Mo_remembers [.ref m] h (mrpost G h m A T ln im pa r) := by
  obtain ⟨W, L, I, ⟨r1, r2⟩, c5, sn⟩ := M
  have r5 : h.2.1 m 5 = .ref (m + 5) := W.1.1.2.2.2.2.2.1
  have s5 : h.1 (m + 5) = (101, 4728) := W.1.2.2.2.2.2.1
  obtain ⟨w, Wa, Rw'⟩ := W.wat
  /- the world goes into place q -/
  have put : ∀ (q : Nat) (g : Hp), q < 12 → g.1 = h.1 → h.2.2 ≤ g.2.2 → g.2.1 m 7 = .int (nI (q + 1)) → (∀ a j, ¬ (a = m ∧ j = 7) → a ≠ m + 5 → g.2.1 a j = h.2.1 a j) → (mrpost G h m A T ln im pa r (.inl none) (cpO g (m + 5) (394 * q) (m + 1) 0 394)) → Ev G m_Mo_remembers 53 [.ref m, un] [] g 0 0 (mrpost G h m A T ln im pa r) := by
    intro q g hq e1 e2 e7 e3 fin
    refine e_Mo_remembers_53 hl g _ m ?_
    have km : ∀ t j, (cpO g (m + 5) (394 * q) (m + 1) 0 t).2.1 m j = g.2.1 m j := fun t j => by rw [cpO_ne (by omega)]
    have kd : (g.1 m).1 = 11 := by rw [e1]; exact W.kd
    have step : Ev G m_Mo_remembers 55 [.ref m, .int (nI 0)] [] (cpO g (m + 5) (394 * q) (m + 1) 0 0) 0 0 (mrpost G h m A T ln im pa r) := by
      refine for_up (Q := fun t => Ev G m_Mo_remembers 55 [.ref m, .int (nI t)] [] (cpO g (m + 5) (394 * q) (m + 1) 0 t) 0 0 (mrpost G h m A T ln im pa r)) (n := 394) ?_ (fun t ht ih => ?_) 0 (Nat.zero_le _)
      · exact e_Mo_remembers_55 hl _ _ m _ ⟨fun _ => fin, fun c => absurd (by decide) c⟩
      · have ix : (394 : Int32) * (nI (q + 1) - 1) + nI t = nI (394 * q + t) := by
          rw [show (1 : Int32) = nI 1 from rfl, pk_sub (by omega), show (394 : Int32) = nI 394 from rfl, pk_mul, nI_add]; rfl
        refine e_Mo_remembers_55 hl _ _ m _ ⟨fun c => absurd c (nI_ge ht (by decide)), fun _ => ⟨m + 5, ⟨kd, by rw [km, e3 m 5 (by omega) (by omega)]; exact r5⟩, nI (q + 1), ⟨kd, by rw [km]; exact e7⟩, m + 1, ⟨kd, by rw [km, e3 m 1 (by omega) (by omega)]; exact W.r1.2⟩, w t, ?_, ?_, ?_⟩⟩
        · refine aI_of (n := 2092) (by rw [show (cpO g (m + 5) (394 * q) (m + 1) 0 t).1 = g.1 from rfl, e1]; exact W.1.2.1) (by omega) (by decide) ?_
          rw [cpO_ne (by omega), e3 (m + 1) t (by omega) (by omega)]; exact Wa.2 t (by omega)
        · rw [ix]; exact aW_of (n := 4728) (by omega) (by rw [show (cpO g (m + 5) (394 * q) (m + 1) 0 t).1 = g.1 from rfl, e1]; exact s5) (by omega) (by decide)
        · rw [ix, nI_clamp (by omega)]
          refine e_Mo_remembers_85 hl _ _ m _ ?_
          rw [nI_1]
          have es := cpO_s (h := g) (a := m + 5) (da := 394 * q) (b := m + 1) (sb := 0) (t := t)
          rw [show g.2.1 (m + 1) (0 + t) = .int (w t) by rw [Nat.zero_add, e3 (m + 1) t (by omega) (by omega)]; exact Wa.2 t (by omega)] at es
          rw [es]; exact ih
    rw [cpO_0] at step
    exact step
  /- what comes of it -/
  have fin : ∀ (q : Nat) (g : Hp), q + 1 = min (r + 1) 12 → g.1 = h.1 → h.2.2 ≤ g.2.2 → g.2.1 m 7 = .int (nI (q + 1)) → (∀ a j, ¬ (a = m ∧ j = 7) → a ≠ m + 5 → g.2.1 a j = h.2.1 a j) → (∀ j, j < 4728 → ∃ y, g.2.1 (m + 5) j = .int y) → (∀ i, i < q → SnAt g (m + 5) (394 * (q - 1 - i)) (pa i) (h.2.1 (m + 1) 3)) → mrpost G h m A T ln im pa r (.inl none) (cpO g (m + 5) (394 * q) (m + 1) 0 394) := by
    intro q g hq e1 e2 e7 e3 e4 e5
    have k : ∀ a j, ¬ (a = m ∧ j = 7) → a ≠ m + 5 → (cpO g (m + 5) (394 * q) (m + 1) 0 394).2.1 a j = h.2.1 a j := fun a j n1 n2 => by rw [cpO_ne n2]; exact e3 a j n1 n2
    have in5 : ∀ j, j < 394 → (cpO g (m + 5) (394 * q) (m + 1) 0 394).2.1 (m + 5) (394 * q + j) = h.2.1 (m + 1) j := fun j hj => by
      rw [cpO_in hj, Nat.zero_add]; exact e3 _ _ (by omega) (by omega)
    refine ⟨rfl, ⟨W.keep (fun a _ _ => by rw [show (cpO g (m + 5) (394 * q) (m + 1) 0 394).1 = g.1 from rfl, e1]) (fun j hj => k _ _ (by omega) (by omega)) (fun j _ => k _ _ (by omega) (by omega)), L.congr (fun j _ => k _ _ (by omega) (by omega)), I.keep (k _ _ (by omega) (by omega)) (fun j _ => k _ _ (by omega) (by omega)), ⟨by omega, by rw [cpO_ne (by omega), ← hq]; exact e7⟩, fun j hj => ?_, fun i hi => ?_⟩, ⟨e1, e2, fun a j n => ?_⟩, k m 0 (by omega) (by omega)⟩
    · by_cases z : 394 * q ≤ j ∧ j < 394 * q + 394
      · obtain ⟨i, rfl⟩ : ∃ i, j = 394 * q + i := ⟨j - 394 * q, by omega⟩
        rw [in5 i (by omega)]; exact ⟨_, Wa.2 i (by omega)⟩
      · rw [cpO_out (by omega)]; exact e4 j hj
    · rw [k (m + 1) 3 (by omega) (by omega), ← hq]
      cases i with
      | zero =>
        rw [show q + 1 - 1 - 0 = q by omega]
        exact ⟨w, fun j hj => by rw [in5 j hj]; exact Wa.2 j (by omega), Rw', (Wa.2 3 (by omega)).symm⟩
      | succ i =>
        rw [show q + 1 - 1 - (i + 1) = q - 1 - i by omega]
        refine (e5 i (by omega)).keep (fun j hj => cpO_out (Or.inl ?_))
        have : q - 1 - i + 1 ≤ q := by omega
        have := Nat.mul_le_mul_left 394 this
        omega
    · by_cases z : a = m + 5
      · subst z; exact absurd (by unfold mA; omega) n
      · exact k a j (fun y => n (by unfold mA; omega)) z
  refine en_Mo_remembers h _ m (e_Mo_remembers_0 hl h _ m ⟨nI r, ⟨W.kd, r2⟩, fun c => ⟨nI r, ⟨W.kd, r2⟩, ⟨hm, W.kd⟩, ?_⟩, fun c => ?_⟩)
  · have hr : r < 12 := by
      rcases Nat.lt_or_ge r 12 with q | q
      · exact q
      · exact absurd (show nI r = nI 12 by rw [show r = 12 by omega]) c
    rw [nI_1]
    refine put r _ hr rfl (Nat.le_refl _) hs_eq (fun a j n _ => hs_ne n) (fin r _ (by omega) rfl (Nat.le_refl _) hs_eq (fun a j n _ => hs_ne n) (fun j hj => by rw [hs_ne (by omega)]; exact c5 j hj) (fun i hi => (sn i hi).keep (fun j _ => hs_ne (by omega))))
  · have hr : r = 12 := (nI_eq (by omega) (by decide)).mp (show nI r = nI 12 from c)
    subst hr
    have rd : ∀ j, j < 4728 → ∀ t, t ≤ 4334 → ∃ y, (cpO h (m + 5) 0 (m + 5) 394 t).2.1 (m + 5) j = .int y := fun j hj t ht => by
      by_cases z : 0 ≤ j ∧ j < 0 + t
      · rw [cpO_at, if_pos z]; exact c5 _ (by omega)
      · rw [cpO_out (by omega)]; exact c5 j hj
    have step : Ev G m_Mo_remembers 11 [.ref m, .int (nI 0)] [] (cpO h (m + 5) 0 (m + 5) 394 0) 0 0 (mrpost G h m A T ln im pa 12) := by
      refine for_up (Q := fun t => Ev G m_Mo_remembers 11 [.ref m, .int (nI t)] [] (cpO h (m + 5) 0 (m + 5) 394 t) 0 0 (mrpost G h m A T ln im pa 12)) (n := 4334) ?_ (fun t ht ih => ?_) 0 (Nat.zero_le _)
      · refine e_Mo_remembers_11 hl _ _ m _ ⟨fun _ => ?_, fun c => absurd (by decide) c⟩
        refine put 11 _ (by decide) rfl (Nat.le_refl _) (by rw [cpO_ne (by omega)]; exact r2) (fun a j _ n => by rw [cpO_ne n]) (fin 11 _ (by decide) rfl (Nat.le_refl _) (by rw [cpO_ne (by omega)]; exact r2) (fun a j _ n => by rw [cpO_ne n]) (fun j hj => rd j hj 4334 (Nat.le_refl _)) (fun i hi => ?_))
        obtain ⟨w', q1, q2, q3⟩ := sn i (by omega)
        refine ⟨w', fun j hj => ?_, q2, q3⟩
        have : 394 * (11 - 1 - i) + 394 * i = 3940 := by
          rw [← Nat.mul_add, show 11 - 1 - i + i = 10 by omega]
        have e : (cpO h (m + 5) 0 (m + 5) 394 4334).2.1 (m + 5) (0 + (394 * (11 - 1 - i) + j)) = h.2.1 (m + 5) (394 + (394 * (11 - 1 - i) + j)) := cpO_in (by omega)
        rw [Nat.zero_add] at e
        rw [e, show 394 + (394 * (11 - 1 - i) + j) = 394 * (12 - 1 - i) + j by
          rw [show 12 - 1 - i = (11 - 1 - i) + 1 by omega, Nat.mul_add]; omega]
        exact q1 j hj
      · obtain ⟨y, hy⟩ := c5 (394 + t) (by omega)
        have ix : nI t + 394 = nI (394 + t) := by rw [show (394 : Int32) = nI 394 from rfl, nI_add]; exact congrArg nI (by omega)
        have kd : ((cpO h (m + 5) 0 (m + 5) 394 t).1 m).1 = 11 := W.kd
        have f5 : (cpO h (m + 5) 0 (m + 5) 394 t).2.1 m 5 = .ref (m + 5) := by rw [cpO_ne (by omega)]; exact r5
        refine e_Mo_remembers_11 hl _ _ m _ ⟨fun c => absurd c (nI_ge ht (by decide)), fun _ => ⟨m + 5, ⟨kd, f5⟩, m + 5, ⟨kd, f5⟩, y, ?_, aW_of (n := 4728) (by omega) s5 (by omega) (by decide), ?_⟩⟩
        · rw [ix]
          exact aI_of (n := 4728) s5 (by omega) (by decide) (by rw [cpO_rd (Or.inr (by omega))]; exact hy)
        · rw [nI_clamp (by omega)]
          refine e_Mo_remembers_34 hl _ _ m _ ?_
          rw [nI_1]
          have es := cpO_s (h := h) (a := m + 5) (da := 0) (b := m + 5) (sb := 394) (t := t)
          rw [hy, Nat.zero_add] at es
          rw [es]; exact ih
    rw [cpO_0] at step
    exact step
end MST
