/-! ===== things put to hands: the class ===== -/
def zN (A : Vs) (t : Nat) : Nat := (A 7 t).toNatClampNeg
def wN (A : Vs) (t : Nat) : Nat := (A 6 t).toNatClampNeg
def gN (T : Tt) (A : Vs) (p : Nat) : Nat := (gripF T A p).toNatClampNeg
def lvB (A : Vs) (p : Nat) : Bool := decide (A 5 p = 1)
theorem imax0 (x : Int32) : ¬ imax 0 x < 0 := by
  unfold imax
  split
  · rename_i c; exact Int32.not_lt.mpr (Int32.le_of_lt c)
  · decide
theorem gN_nI (T : Tt) (A : Vs) (p : Nat) : gripF T A p = nI (gN T A p) ∧ gN T A p < 2 ^ 31 := by
  obtain ⟨j, hj, e⟩ := nI_of (x := gripF T A p) (imax0 _)
  unfold gN
  rw [e, nI_clamp hj]; exact ⟨rfl, hj⟩
theorem zN_nI {A : Vs} (W : Wf A) {t : Nat} (ht : t < nT A) : A 7 t = nI (zN A t) ∧ zN A t ≤ 12 := by
  obtain ⟨k, hk, e⟩ := (W.2.2.2.1 t ht).2.2.2
  unfold zN; rw [e, nI_clamp (by omega)]; exact ⟨rfl, hk⟩
theorem wN_nI {A : Vs} (W : Wf A) {t : Nat} (ht : t < nT A) : A 6 t = nI (wN A t) ∧ wN A t ≤ 99 := by
  obtain ⟨k, hk, e⟩ := (W.2.2.2.1 t ht).2.2.1
  unfold wN; rw [e, nI_clamp (by omega)]; exact ⟨rfl, hk⟩
def Ord (w od : Nat → Nat) (n : Nat) : Prop := (∀ j k, j < k → k < n → w (od k) ≤ w (od j)) ∧ (∀ j k, j < k → k < n → od j ≠ od k) ∧ (∀ t, t < n → ∃ j, j < n ∧ od j = t) ∧ ∀ j, j < n → od j < n
def insO (od : Nat → Nat) (a t : Nat) : Nat → Nat := fun i => if i < a then od i else if i = a then t else od (i - 1)
theorem insO_lt {od : Nat → Nat} {a t i : Nat} (h : i < a) : insO od a t i = od i := by unfold insO; rw [if_pos h]
theorem insO_eq {od : Nat → Nat} {a t : Nat} : insO od a t a = t := by unfold insO; rw [if_neg (by omega), if_pos rfl]
theorem insO_gt {od : Nat → Nat} {a t i : Nat} (h : a < i) : insO od a t i = od (i - 1) := by unfold insO; rw [if_neg (by omega), if_neg (by omega)]
theorem Ord.ins {w od : Nat → Nat} {a t : Nat} (O : Ord w od t) (ha : a ≤ t) (lo : ∀ i, a ≤ i → i < t → w (od i) < w t) (hi : a = 0 ∨ w t ≤ w (od (a - 1))) : Ord w (insO od a t) (t + 1) := by
  obtain ⟨o1, o2, o3, o4⟩ := O
  have so : ∀ j k, j ≤ k → k < t → w (od k) ≤ w (od j) := fun j k h1 h2 => by
    by_cases q : j = k
    · subst q; exact Nat.le_refl _
    · exact o1 j k (by omega) h2
  refine ⟨fun j k h1 h2 => ?_, fun j k h1 h2 => ?_, fun s hs => ?_, fun j hj => ?_⟩
  · by_cases c1 : k < a
    · rw [insO_lt c1, insO_lt (by omega)]; exact o1 j k h1 (by omega)
    · by_cases c2 : k = a
      · subst c2
        rw [insO_eq, insO_lt h1]
        have := so j (k - 1) (by omega) (by omega)
        omega
      · rw [insO_gt (by omega)]
        have l := lo (k - 1) (by omega) (by omega)
        by_cases c3 : j < a
        · rw [insO_lt c3]; exact so j (k - 1) (by omega) (by omega)
        · by_cases c4 : j = a
          · subst c4; rw [insO_eq]; omega
          · rw [insO_gt (by omega)]; exact so (j - 1) (k - 1) (by omega) (by omega)
  · by_cases c1 : k < a
    · rw [insO_lt c1, insO_lt (by omega)]; exact o2 j k h1 (by omega)
    · by_cases c2 : k = a
      · subst c2
        rw [insO_eq, insO_lt h1]
        have := o4 j (by omega); omega
      · rw [insO_gt (i := k) (by omega)]
        by_cases c3 : j < a
        · rw [insO_lt c3]; exact o2 j (k - 1) (by omega) (by omega)
        · by_cases c4 : j = a
          · subst c4; rw [insO_eq]; have := o4 (k - 1) (by omega); omega
          · rw [insO_gt (by omega)]; exact o2 (j - 1) (k - 1) (by omega) (by omega)
  · by_cases q : s = t
    · subst q; exact ⟨a, by omega, insO_eq⟩
    · obtain ⟨j, hj, e⟩ := o3 s (by omega)
      by_cases c : j < a
      · exact ⟨j, by omega, by rw [insO_lt c]; exact e⟩
      · exact ⟨j + 1, by omega, by rw [insO_gt (by omega)]; exact e⟩
  · by_cases c1 : j < a
    · rw [insO_lt c1]; have := o4 j (by omega); omega
    · by_cases c2 : j = a
      · subst c2; rw [insO_eq]; omega
      · rw [insO_gt (by omega)]; have := o4 (j - 1) (by omega); omega
/-- hands are read, and the order of things -/
def HdC (h : Hp) (x : Nat) (T : Tt) (A : Vs) (od : Nat → Nat) : Prop := (∀ p, p < nP A → h.2.1 (x + 6) p = .int (nI (gN T A p))) ∧ (∀ i, i < nT A → h.2.1 (x + 7) i = .int (nI (od i))) ∧ Ord (wN A) od (nT A)
def mH (x : Nat) : Nat → Nat → Prop := fun a _ => a = x + 6 ∨ a = x + 7
def pmA (T : Tt) (A : Vs) : Nat → Nat → Nat → Nat := pm (gN T A) (zN A) (wN A) (lvB A) (nT A)
theorem pm_b {g z w : Nat → Nat} {lv : Nat → Bool} {nt : Nat} (hw : ∀ t, t < nt → w t ≤ 99) : ∀ d p k, pm g z w lv nt d p k ≤ 99 * d
  | 0, _, _ => Nat.zero_le _
  | d + 1, p, k => by
    unfold pm
    refine (mx_le nt).mpr ⟨?_, fun t ht _ => ?_⟩
    · have := pm_b (g := g) (z := z) (lv := lv) hw d (p + 1) k; omega
    · have := pm_b (g := g) (z := z) (lv := lv) hw d (p + 1) (k ||| 2 ^ t)
      have := hw t ht; omega
theorem pmA_b {T : Tt} {A : Vs} (W : Wf A) (d p k : Nat) : pmA T A d p k ≤ 99 * d := pm_b (fun t ht => (wN_nI W ht).2) d p k
theorem bt_rm {x : Int32} {f : Nat} (hf : f < 32) : bt (x &&& (sh1 f ^^^ -1)) = rmB (bt x) f := by
  funext i
  unfold rmB
  rcases Nat.lt_or_ge i 32 with hi | hi
  · rw [b_and, bt_inv hi, b_sh1 hf hi]
  · rw [b_big hi, b_big hi]; rfl
theorem bit1_t {x : Int32} {p : Nat} (hp : p < 32) : bit1 x p = 1 ↔ bt x p = true := by
  rw [bit1_eq x hp]
  cases bt x p <;> simp
theorem bit1_f {x : Int32} {p : Nat} (hp : p < 32) : bit1 x p = 0 ↔ bt x p = false := by
  rw [bit1_eq x hp]
  cases bt x p <;> simp
section PUT
variable {G : Gx} {h h' h1 : Hp} {x la m v : Nat} {A A' : Vs} {T : Tt} {ln : Int32} {im im' : Option Sv} {pa pa' : Nat → Vs} {r r' : Nat} {b : Nat → Nat} {n : Nat} {fl : Int32} {od : Nat → Nat}
theorem MtS.kd (S : MtS h x) : (h.1 (x + 5)).1 = 4 := by rw [S.1]
theorem MtS.r0 (S : MtS h x) : fR h 4 (x + 5) 0 (x + 6) := ⟨S.kd, S.2.1.1⟩
theorem MtS.r1 (S : MtS h x) : fR h 4 (x + 5) 1 (x + 7) := ⟨S.kd, S.2.1.2.1⟩
theorem MtS.r2 (S : MtS h x) : fR h 4 (x + 5) 2 (x + 8) := ⟨S.kd, S.2.1.2.2.1⟩
theorem MtS.r3 (S : MtS h x) : fR h 4 (x + 5) 3 (x + 9) := ⟨S.kd, S.2.1.2.2.2.1⟩
theorem MtS.r4 (S : MtS h x) : fR h 4 (x + 5) 4 (x + 10) := ⟨S.kd, S.2.1.2.2.2.2⟩
theorem t_weak (hl : G.1.stackTraces = false) (S : MtS h x) (fr : Int32) {g : Nat → Nat} (hg : ∀ p, p < 7 → bt fr p = true → g p < 2 ^ 31 ∧ h.2.1 (x + 6) p = .int (nI (g p))) {s : Nat} (hs : s < 2 ^ 31) : EvI G m_Ma_weakestHand [.ref (x + 5), .int fr, .int (nI s)] h (wkF g (bt fr) s) := by
  have ag : ∀ p, p < 7 → bt fr p = true → aI h 101 (x + 6) (nI p) (nI (g p)) := fun p hp q => aI_of S.2.2.1 hp (by decide) (hg p hp q).2
  refine en_Ma_weakestHand h _ _ _ _ (e_Ma_weakestHand_0 hl h _ _ _ _ ?_)
  refine for_up (Q := fun p => Ev G m_Ma_weakestHand 5 [.ref (x + 5), .int fr, .int (nI s), .int (lp (wkS g (bt fr) s) p (-1)), .int (nI p)] [] h 0 0 (fun o h' => o = .inl (some (.int (wkF g (bt fr) s))) ∧ h' = h)) (n := 7) ?_ (fun p hp ih => ?_) 0 (Nat.zero_le _)
  · exact e_Ma_weakestHand_5 hl h _ _ _ _ _ _ ⟨fun _ => ⟨rfl, rfl⟩, fun c => absurd (by decide) c⟩
  · have ih' : ∀ s', wkS g (bt fr) s p (lp (wkS g (bt fr) s) p (-1)) = s' → Ev G m_Ma_weakestHand 5 [.ref (x + 5), .int fr, .int (nI s), .int s', .int (nI p + 1)] [] h 0 0 (fun o h' => o = .inl (some (.int (wkF g (bt fr) s))) ∧ h' = h) := fun s' e => by rw [nI_1, ← e]; exact ih
    have no : ∀ {o : Int32}, ¬ (bt fr p = true ∧ s ≤ g p ∧ (o = -1 ∨ g p < g o.toNatClampNeg)) → wkS g (bt fr) s p o = o := fun q => by unfold wkS; rw [if_neg q]
    have ys : ∀ {o : Int32}, (bt fr p = true ∧ s ≤ g p ∧ (o = -1 ∨ g p < g o.toNatClampNeg)) → wkS g (bt fr) s p o = nI p := fun q => by unfold wkS; rw [if_pos q]
    refine e_Ma_weakestHand_5 hl h _ _ _ _ _ _ ⟨fun c => absurd c (nI_ge (b := 7) hp (by decide)), fun _ => ⟨fun c => ?_, fun c => ?_⟩⟩
    · have c' : ¬ bt fr p = true := fun q => c ((bit1_t (by omega)).mpr q)
      exact ih' _ (no (fun q => c' q.1))
    · have c' : bt fr p = true := (bit1_t (by omega)).mp c
      have gp := (hg p hp c').1
      refine ⟨_, S.r0, _, ag p hp c', fun d => ?_, fun d => ?_⟩
      · have := (nI_ltI gp hs).mp d
        exact ih' _ (no (fun q => by omega))
      · have d' : ¬ g p < s := fun q => d (nI_lt q hs)
        rcases wk_sp (g := g) (F := bt fr) (s := s) p (by omega) with ⟨e1, -⟩ | ⟨q, q1, e1, e2, -, -⟩
        · refine ⟨fun f => ih' _ (ys ⟨c', by omega, Or.inl e1⟩), fun f => absurd e1 f⟩
        · have gq := (hg q (by omega) e2).1
          rw [e1] at ih' ⊢
          refine ⟨fun f => absurd f (m1_ne (by omega)), fun f => ⟨_, S.r0, _, ag p hp c', _, S.r0, _, ag q (by omega) e2, fun k => ?_, fun k => ?_⟩⟩
          · have := (nI_leI gq gp).mp k
            exact ih' _ (no (fun y => by
              rcases y.2.2 with y | y
              · exact f y
              · rw [nI_clamp (by omega)] at y; omega))
          · have : ¬ g q ≤ g p := fun y => k (nI_le y gp)
            exact ih' _ (ys ⟨c', by omega, Or.inr (by rw [nI_clamp (by omega)]; omega)⟩)
theorem t_heldBy (hl : G.1.stackTraces = false) (S : MtS h x) (V : VlyAt h v A la) (W : Wf A) (H : HdC h x T A od) (hs gs : Int32) (hh : ∀ p, bt hs p = true → p < nP A) : EvI G m_Ma_mostHeldBy [.ref (x + 5), .ref v, .int hs, .int gs] h (nI (gr (gN T A) (zN A) (wN A) (bt gs) od (nT A) 0 (bt hs))) := by
  have b10 := W.1.2.2.2
  have b7 := W.1.2.1
  refine en_Ma_mostHeldBy h _ _ _ _ _ (e_Ma_mostHeldBy_0 hl h _ _ _ _ _ ?_)
  suffices hk : ∀ d i fr s, i + d = nT A → (∀ p, bt fr p = true → p < nP A) → Ev G m_Ma_mostHeldBy 9 [.ref (x + 5), .ref v, un, .int gs, .int fr, .int (nI s), .int (nI i), un, un] [] h 0 0 (fun o h' => o = .inl (some (.int (nI (s + gr (gN T A) (zN A) (wN A) (bt gs) od d i (bt fr))))) ∧ h' = h) by
    have := hk (nT A) 0 hs 0 (by omega) hh
    rw [Nat.zero_add] at this; exact this
  intro d
  induction d with
  | zero =>
    intro i fr s hi _
    exact e_Ma_mostHeldBy_9 hl h _ _ _ _ _ _ _ ⟨_, V.f6, fun _ => ⟨rfl, rfl⟩, fun c => absurd (by have hi' : i = nT A := hi; rw [hi']; exact W.1.end_T) c⟩
  | succ d ih =>
    intro i fr s hi hf
    have ho := H.2.2.2.2.2 i (by omega)
    have o10 : od i < 10 := by omega
    have az := zN_nI W ho
    have aw := wN_nI W ho
    refine e_Ma_mostHeldBy_9 hl h _ _ _ _ _ _ _ ⟨_, V.f6, fun c => absurd c (W.1.in_T (by omega)), fun _ => ⟨_, S.r1, nI (od i), aI_of S.2.2.2.1 (by omega) (by decide) (H.2.1 i (by omega)), fun c => ?_, fun c => ?_⟩⟩
    · have c' : bt gs (od i) = true := by
        cases q : bt gs (od i) with
        | true => rfl
        | false => exact absurd ((bit1_f (by omega)).mpr q) c
      refine ⟨_, V.r8, nI (zN A (od i)), by rw [← az.1]; exact V.a7 o10, S.kd, _, t_weak hl S fr (g := gN T A) (fun p hp q => ⟨(gN_nI T A p).2, H.1 p (hf p q)⟩) (by omega), fun e => ?_, fun e => ?_⟩
      · rw [nI_1]
        unfold gr; rw [if_pos c', if_pos e]
        exact ih (i + 1) fr s (by omega) hf
      · rcases wk_sp (g := gN T A) (F := bt fr) (s := zN A (od i)) 7 (Nat.le_refl _) with ⟨e1, -⟩ | ⟨q, q1, e1, e2, -, -⟩
        · exact absurd e1 e
        · refine ⟨_, V.r7, nI (wN A (od i)), by rw [← aw.1]; exact V.a6 o10, ?_⟩
          rw [nI_1, nI_add]
          unfold gr; rw [if_pos c', if_neg e]
          rw [show wkF (gN T A) (bt fr) (zN A (od i)) = nI q from e1, nI_clamp (by omega)]
          have := ih (i + 1) (fr &&& (sh1 q ^^^ -1)) (s + wN A (od i)) (by omega) (fun p hp => by rw [bt_rm (by omega)] at hp; exact hf p (rmB_t.mp hp).1)
          rw [bt_rm (by omega), Nat.add_assoc] at this
          exact this
    · have c' : ¬ bt gs (od i) = true := by rw [(bit1_f (by omega)).mp c]; decide
      rw [nI_1]
      unfold gr; rw [if_neg c']
      exact ih (i + 1) fr s (by omega) hf
/-- by the people from p on and the things that are not taken -/
theorem t_held' (hl : G.1.stackTraces = false) (S : MtS h x) (V : VlyAt h v A la) (W : Wf A) (H : HdC h x T A od) {hs gs : Int32} {d p k : Nat} (hd : p + d = nP A) (eh : bt hs = hnd (lvB A) p d) (eg : ∀ t, t < nT A → bt gs t = !k.testBit t) : EvI G m_Ma_mostHeldBy [.ref (x + 5), .ref v, .int hs, .int gs] h (nI (pmA T A d p k)) := by
  have b7 := W.1.2.1
  have := t_heldBy hl S V W H hs gs (fun q hq => by
    rw [eh] at hq; unfold hnd at hq
    rw [Bool.and_eq_true] at hq
    have := of_decide_eq_true hq.1; omega)
  rw [gr_opt (nT A) 0 _ (fun j k _ a b => H.2.2.1 j k a (by omega)), opt_congr (S' := fun t => !k.testBit t) (nT A) 0 _ (fun j _ b => eg _ (H.2.2.2.2.2 j (by omega))), eh, ← pm_opt (fun j k a b => H.2.2.2.1 j k a b) H.2.2.2.2.1 H.2.2.2.2.2 d p k (by omega)] at this
  exact this
theorem CT.mt (C : CT G h x la A T ln im pa r b n fl) : MtS h x := C.2.2.1.2.1
theorem CT.hd (C : CT G h x la A T ln im pa r b n fl) (F : Fs (mH x) h h') : CT G h' x la A T ln im pa r b n fl := C.small F (fun a j z => by unfold mH at z; unfold xR; omega)
theorem t_readHands (hl : G.1.stackTraces = false) (hx : G.n0 ≤ x) (C : CT G h x la A T ln im pa r b n fl) (W : Wf A) : EvM G m_Ma_readHands [.ref (x + 5), .ref (x + 27)] h (fun o h' => o = .inl none ∧ Fs (mH x) h h' ∧ ∃ od, HdC h' x T A od) := by
  have b10 := W.1.2.2.2
  have b7 := W.1.2.1
  refine en_Ma_readHands h _ _ _ (e_Ma_readHands_0 hl h _ _ _ ?_)
  refine for_up (Q := fun p => ∀ g : Hp, Fs (mH x) h g → (∀ q, q < p → g.2.1 (x + 6) q = .int (nI (gN T A q))) → Ev G m_Ma_readHands 2 [.ref (x + 5), .ref (x + 27), .int (nI p), un] [] g 0 0 (fun o h' => o = .inl none ∧ Fs (mH x) h h' ∧ ∃ od, HdC h' x T A od)) (n := nP A) ?_ (fun p hp ih => ?_) 0 (Nat.zero_le _) h Fs.rf (fun q hq => by omega)
  · intro g F hg
    refine e_Ma_readHands_2 hl g _ _ _ _ ⟨_, (C.hd F).V.f0, fun _ => ?_, fun c => absurd W.1.end_P c⟩
    refine for_up (Q := fun t => ∀ (g : Hp) (od : Nat → Nat), Fs (mH x) h g → (∀ q, q < nP A → g.2.1 (x + 6) q = .int (nI (gN T A q))) → Ord (wN A) od t → (∀ i, i < t → g.2.1 (x + 7) i = .int (nI (od i))) → Ev G m_Ma_readHands 29 [.ref (x + 5), .ref (x + 27), .int (nI t), un] [] g 0 0 (fun o h' => o = .inl none ∧ Fs (mH x) h h' ∧ ∃ od, HdC h' x T A od)) (n := nT A) ?_ (fun t ht ih => ?_) 0 (Nat.zero_le _) g id F hg ⟨fun j k _ q => by omega, fun j k _ q => by omega, fun t q => by omega, fun j q => by omega⟩ (fun i hi => by omega)
    · intro g od F hg O ho
      exact e_Ma_readHands_29 hl g _ _ _ _ ⟨_, (C.hd F).V.f6, fun _ => ⟨rfl, F, od, hg, ho, O⟩, fun c => absurd W.1.end_T c⟩
    · intro g od F hg O ho
      have aw := wN_nI W ht
      refine e_Ma_readHands_29 hl g _ _ _ _ ⟨_, (C.hd F).V.f6, fun c => absurd c (W.1.in_T ht), fun _ => ?_⟩
      /- the place is looked for from the end on -/
      suffices hk : ∀ a (g : Hp), a ≤ t → Fs (mH x) h g → (∀ q, q < nP A → g.2.1 (x + 6) q = .int (nI (gN T A q))) → (∀ i, i < a → g.2.1 (x + 7) i = .int (nI (od i))) → (∀ i, a ≤ i → i < t → g.2.1 (x + 7) (i + 1) = .int (nI (od i)) ∧ wN A (od i) < wN A t) → Ev G m_Ma_readHands 39 [.ref (x + 5), .ref (x + 27), .int (nI t), .int (nI a)] [] g 0 0 (fun o h' => o = .inl none ∧ Fs (mH x) h h' ∧ ∃ od, HdC h' x T A od) from hk t g (Nat.le_refl _) F hg ho (fun i a b => by omega)
      intro a
      induction a with
      | zero =>
        intro g _ F hg _ ho
        have Sg := (C.hd F).mt
        refine e_Ma_readHands_39 hl g _ _ _ _ _ ⟨fun _ => ⟨_, Sg.r1, aW_of (by omega) Sg.2.2.2.1 (by omega : 0 < 10) (by decide), e_Ma_readHands_92 hl _ _ _ _ _ ?_⟩, fun c => absurd (by decide) c⟩
        rw [nI_1]
        refine ih _ (insO od 0 t) (F.set (Or.inr rfl)) (fun q hq => by rw [hs_ne (by omega)]; exact hg q hq) (O.ins (Nat.zero_le _) (fun i a b => (ho i a b).2) (Or.inl rfl)) (fun i hi => ?_)
        show (hset g (x + 7) 0 (.int (nI t))).2.1 (x + 7) i = _
        by_cases c : i = 0
        · subst c; rw [hs_eq, insO_eq]
        · rw [hs_ne (by omega), insO_gt (by omega)]
          have := (ho (i - 1) (by omega) (by omega)).1
          rw [show i - 1 + 1 = i by omega] at this; exact this
      | succ a iha =>
        intro g ha F hg hlo hhi
        have Cg := C.hd F
        have Sg := Cg.mt
        have oa : od a < nT A := by have := O.2.2.2 a (by omega); omega
        have wa := wN_nI W oa
        have e1 : nI (a + 1) - 1 = nI a := nI_pred a
        have a4 : aI g 101 (x + 7) (nI (a + 1) - 1) (nI (od a)) := by rw [e1]; exact aI_of Sg.2.2.2.1 (by omega) (by decide) (hlo a (by omega))
        refine e_Ma_readHands_39 hl g _ _ _ _ _ ⟨fun c => absurd c (nI_nle (by omega) (by omega)), fun _ => ⟨_, Cg.V.r7, _, Sg.r1, _, a4, nI (wN A (od a)), by rw [← wa.1]; exact Cg.V.a6 (by omega), _, Cg.V.r7, nI (wN A t), by rw [← aw.1]; exact Cg.V.a6 (by omega), fun c => ?_, fun c => ?_⟩⟩
        · have c' := (nI_leI (by omega) (by omega)).mp c
          refine ⟨_, Sg.r1, aW_of (by omega) Sg.2.2.2.1 (by omega : a + 1 < 10) (by decide), ?_⟩
          rw [nI_clamp (by omega)]
          refine e_Ma_readHands_92 hl _ _ _ _ _ ?_
          rw [nI_1]
          refine ih _ (insO od (a + 1) t) (F.set (Or.inr rfl)) (fun q hq => by rw [hs_ne (by omega)]; exact hg q hq) (O.ins ha (fun i a b => (hhi i a b).2) (Or.inr c')) (fun i hi => ?_)
          by_cases d1 : i < a + 1
          · rw [hs_ne (by omega), insO_lt d1]; exact hlo i d1
          · by_cases d2 : i = a + 1
            · subst d2; rw [hs_eq, insO_eq]
            · rw [hs_ne (by omega), insO_gt (by omega)]
              have := (hhi (i - 1) (by omega) (by omega)).1
              rw [show i - 1 + 1 = i by omega] at this; exact this
        · have c' : ¬ wN A t ≤ wN A (od a) := fun q => c (nI_le q (by omega))
          refine ⟨_, Sg.r1, _, Sg.r1, _, a4, aW_of (by omega) Sg.2.2.2.1 (by omega : a + 1 < 10) (by decide), ?_⟩
          rw [nI_clamp (by omega)]
          refine e_Ma_readHands_79 hl _ _ _ _ _ _ ?_
          rw [pk_m1]
          refine iha _ (by omega) (F.set (Or.inr rfl)) (fun q hq => by rw [hs_ne (by omega)]; exact hg q hq) (fun i hi => by rw [hs_ne (by omega)]; exact hlo i (by omega)) (fun i i1 i2 => ?_)
          by_cases d : i = a
          · subst d; rw [hs_eq]; exact ⟨rfl, by omega⟩
          · rw [hs_ne (by omega)]; exact hhi i (by omega) i2
  · intro g F hg
    have Cg := C.hd F
    have Sg := Cg.mt
    have p7 := W.1.P7 hp
    have gp := gN_nI T A p
    refine e_Ma_readHands_2 hl g _ _ _ _ ⟨_, Cg.V.f0, fun c => absurd c (W.1.in_P hp), fun _ => ⟨_, Sg.r0, Cg.V.kd, _, v_grips hl Cg.V W Cg.C.L.1 hp, aW_of (by omega) Sg.2.2.1 p7 (by decide), ?_⟩⟩
    rw [nI_clamp (by omega), gp.1]
    refine e_Ma_readHands_21 hl _ _ _ _ _ ?_
    rw [nI_1]
    refine ih _ (F.set (Or.inl rfl)) (fun q hq => ?_)
    by_cases z : q = p
    · subst z; exact hs_eq
    · rw [hs_ne (by omega)]; exact hg q (by omega)
end PUT
