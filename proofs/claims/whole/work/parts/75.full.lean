/-! ===== all that the class and the reference hold; what is told: the calls ===== -/
def MtS (h : Hp) (x : Nat) : Prop := h.1 (x + 5) = (4, 5) ∧ (h.2.1 (x + 5) 0 = .ref (x + 6) ∧ h.2.1 (x + 5) 1 = .ref (x + 7) ∧ h.2.1 (x + 5) 2 = .ref (x + 8) ∧ h.2.1 (x + 5) 3 = .ref (x + 9) ∧ h.2.1 (x + 5) 4 = .ref (x + 10)) ∧ (h.1 (x + 6) = (101, 7) ∧ h.1 (x + 7) = (101, 10) ∧ h.1 (x + 8) = (101, 7) ∧ h.1 (x + 9) = (101, 7) ∧ h.1 (x + 10) = (101, 128))
def RdS (h : Hp) (x : Nat) : Prop := (h.1 (x + 12) = (5, 6) ∧ h.2.1 (x + 12) 0 = .ref (x + 13) ∧ h.2.1 (x + 12) 1 = .ref (x + 14) ∧ h.2.1 (x + 12) 2 = .ref (x + 15)) ∧ (h.1 (x + 13) = (105, 401) ∧ h.1 (x + 14) = (101, 401) ∧ h.1 (x + 15) = (101, 401)) ∧ (h.1 (x + 16) = (9, 1) ∧ h.2.1 (x + 16) 0 = .ref (x + 12)) ∧ (h.1 (x + 17) = (2, 7) ∧ h.2.1 (x + 17) 0 = .ref (x + 12) ∧ h.2.1 (x + 17) 1 = .ref (x + 18) ∧ h.2.1 (x + 17) 2 = .ref (x + 19) ∧ h.2.1 (x + 17) 3 = .ref (x + 20) ∧ h.2.1 (x + 17) 4 = .ref (x + 21)) ∧ (h.1 (x + 18) = (101, 12) ∧ h.1 (x + 19) = (101, 12) ∧ h.1 (x + 20) = (101, 12) ∧ h.1 (x + 21) = (101, 800)) ∧ ∀ a j, x + 18 ≤ a → a ≤ x + 20 → j < 12 → ∃ y, h.2.1 a j = .int y
/-- where the references of the small classes lie -/
def xR (x a j : Nat) : Prop := (a = x + 3 ∧ j = 0) ∨ a = x + 5 ∨ (a = x + 12 ∧ j ≤ 2) ∨ a = x + 16 ∨ (a = x + 17 ∧ j ≤ 4) ∨ (x + 18 ≤ a ∧ a ≤ x + 20)
def XS2 (h : Hp) (x : Nat) : Prop := TdS h x ∧ MtS h x ∧ RdS h x
theorem XS2.keep {h h' : Hp} {x : Nat} (S : XS2 h x) (e1 : ∀ a, x + 3 ≤ a → a ≤ x + 21 → h'.1 a = h.1 a) (e2 : ∀ a j, xR x a j → h'.2.1 a j = h.2.1 a j) : XS2 h' x := by
  obtain ⟨⟨a1, a2, a3⟩, ⟨b1, ⟨b2, b3, b4, b5, b6⟩, b7, b8, b9, b10, b11⟩, ⟨c1, c2, c3, c4⟩, ⟨c5, c6, c7⟩, ⟨c8, c9⟩, ⟨d1, d2, d3, d4, d5, d6⟩, ⟨d7, d8, d9, d10⟩, d11⟩ := S
  refine ⟨⟨?_, ?_, ?_⟩, ⟨?_, ⟨?_, ?_, ?_, ?_, ?_⟩, ?_, ?_, ?_, ?_, ?_⟩, ⟨?_, ?_, ?_, ?_⟩, ⟨?_, ?_, ?_⟩, ⟨?_, ?_⟩, ⟨?_, ?_, ?_, ?_, ?_, ?_⟩, ⟨?_, ?_, ?_, ?_⟩, fun a j h1 h2 h3 => by rw [e2 a j (by unfold xR; omega)]; exact d11 a j h1 h2 h3⟩
  · rw [e1 _ (by omega) (by omega)]; exact a1
  · rw [e2 _ _ (by unfold xR; omega)]; exact a2
  · rw [e1 _ (by omega) (by omega)]; exact a3
  · rw [e1 _ (by omega) (by omega)]; exact b1
  · rw [e2 _ _ (by unfold xR; omega)]; exact b2
  · rw [e2 _ _ (by unfold xR; omega)]; exact b3
  · rw [e2 _ _ (by unfold xR; omega)]; exact b4
  · rw [e2 _ _ (by unfold xR; omega)]; exact b5
  · rw [e2 _ _ (by unfold xR; omega)]; exact b6
  · rw [e1 _ (by omega) (by omega)]; exact b7
  · rw [e1 _ (by omega) (by omega)]; exact b8
  · rw [e1 _ (by omega) (by omega)]; exact b9
  · rw [e1 _ (by omega) (by omega)]; exact b10
  · rw [e1 _ (by omega) (by omega)]; exact b11
  · rw [e1 _ (by omega) (by omega)]; exact c1
  · rw [e2 _ _ (by unfold xR; omega)]; exact c2
  · rw [e2 _ _ (by unfold xR; omega)]; exact c3
  · rw [e2 _ _ (by unfold xR; omega)]; exact c4
  · rw [e1 _ (by omega) (by omega)]; exact c5
  · rw [e1 _ (by omega) (by omega)]; exact c6
  · rw [e1 _ (by omega) (by omega)]; exact c7
  · rw [e1 _ (by omega) (by omega)]; exact c8
  · rw [e2 _ _ (by unfold xR; omega)]; exact c9
  · rw [e1 _ (by omega) (by omega)]; exact d1
  · rw [e2 _ _ (by unfold xR; omega)]; exact d2
  · rw [e2 _ _ (by unfold xR; omega)]; exact d3
  · rw [e2 _ _ (by unfold xR; omega)]; exact d4
  · rw [e2 _ _ (by unfold xR; omega)]; exact d5
  · rw [e2 _ _ (by unfold xR; omega)]; exact d6
  · rw [e1 _ (by omega) (by omega)]; exact d7
  · rw [e1 _ (by omega) (by omega)]; exact d8
  · rw [e1 _ (by omega) (by omega)]; exact d9
  · rw [e1 _ (by omega) (by omega)]; exact d10
def CT (G : Gx) (h : Hp) (x la : Nat) (A : Vs) (T : Tt) (ln : Int32) (im : Option Sv) (pa : Nat → Vs) (r : Nat) (b : Nat → Nat) (n : Nat) (fl : Int32) : Prop := CVl G h x la A T ln im pa r ∧ (∃ u, TpC h x b n u) ∧ XS2 h x ∧ h.2.1 x 12 = .int fl
def xZ (x : Nat) : Nat → Nat → Prop := fun a _ => x ≤ a ∧ a ≤ x + 191
def CQ (G : Gx) (h : Hp) (x la : Nat) (A : Vs) (T : Tt) (ln : Int32) (im : Option Sv) (pa : Nat → Vs) (r : Nat) (b : Nat → Nat) (n : Nat) (fl : Int32) (es : Int32 → String) (q : Int32 × Int32) : Res → Hp → Prop := fun o h' => cans es (xZ x) h q o h' ∧ CT G h' x la A T ln im pa r b n fl
def MT (G : Gx) (h : Hp) (m : Nat) (A : Vs) (T : Tt) (ln : Int32) (im : Option Sv) (pa : Nat → Vs) (r : Nat) (b : Nat → Nat) (n : Nat) (fl : Int32) : Prop := MV G h m A T ln im pa r ∧ (∃ e, TpM h m b n e) ∧ h.2.1 m 14 = .int fl
def mZ (m : Nat) : Nat → Nat → Prop := fun a _ => m ≤ a ∧ a ≤ m + 15
def MQt (G : Gx) (h : Hp) (m : Nat) (A : Vs) (T : Tt) (ln : Int32) (im : Option Sv) (pa : Nat → Vs) (r : Nat) (b : Nat → Nat) (n : Nat) (fl : Int32) (q : Int32 × Int32) : Res → Hp → Prop := fun o h' => o = .inl (some (.int q.2)) ∧ h'.2.1 m 0 = .int q.1 ∧ MT G h' m A T ln im pa r b n fl ∧ Fs (mZ m) h h'
section FULL
variable {G : Gx} {h h' h1 : Hp} {x la m : Nat} {A A' : Vs} {T : Tt} {ln : Int32} {im im' : Option Sv} {pa pa' : Nat → Vs} {r r' : Nat} {b : Nat → Nat} {n : Nat} {fl : Int32} {es : Int32 → String}
theorem CT.C (C : CT G h x la A T ln im pa r b n fl) : CVl G h x la A T ln im pa r := C.1
theorem CT.tk (C : CT G h x la A T ln im pa r b n fl) : (h.1 (x + 1)).1 = 6 := by obtain ⟨-, ⟨u, T⟩, -⟩ := C; exact T.kd
theorem CT.S (C : CT G h x la A T ln im pa r b n fl) : XSh h x := C.1.S
theorem CT.V (C : CT G h x la A T ln im pa r b n fl) : VlyAt h (x + 27) A la := C.1.V
/-- the valleys and what is beside them have changed -/
theorem CT.act (C : CT G h x la A T ln im pa r b n fl) (C' : CVl G h' x la A' T ln im' pa' r') (F : Fs (aX x) h h') : CT G h' x la A' T ln im' pa' r' b n fl := by
  obtain ⟨-, ⟨u, Tp⟩, S, e⟩ := C
  exact ⟨C', ⟨u, Tp.keep F (fun a j z => by unfold aX; omega)⟩, S.keep (fun a _ _ => by rw [F.1]) (fun a j z => F.2.2 a j (by unfold xR at z; unfold aX; omega)), by rw [F.2.2 x 12 (by unfold aX; omega)]; exact e⟩
theorem CT.keep (C : CT G h x la A T ln im pa r b n fl) {P : Nat → Nat → Prop} (F : Fs P h h') (n1 : ∀ a j, x ≤ a → a < x + 192 → ¬ P a j) (n2 : ∀ a j, x + 209 ≤ a → ¬ P a j) : CT G h' x la A T ln im pa r b n fl := by
  obtain ⟨C0, ⟨u, Tp⟩, S, e⟩ := C
  exact ⟨C0.keep F (fun a j h1 h2 _ => n1 a j h1 h2) n2, ⟨u, Tp.keep F (fun a j z => n1 a j (by omega) (by omega))⟩, S.keep (fun a _ _ => by rw [F.1]) (fun a j z => F.2.2 a j (n1 a j (by unfold xR at z; omega) (by unfold xR at z; omega))), by rw [F.2.2 x 12 (n1 _ _ (by omega) (by omega))]; exact e⟩
theorem CT.nx (C : CT G h x la A T ln im pa r b n fl) (F : Fs nF h h') : CT G h' x la A T ln im pa r b n fl := C.keep F (fun _ _ _ _ z => z) (fun _ _ _ z => z)
/-- rows of the small classes have changed -/
theorem CT.small (C : CT G h x la A T ln im pa r b n fl) {P : Nat → Nat → Prop} (F : Fs P h h') (n1 : ∀ a j, P a j → (x + 3 ≤ a ∧ a ≤ x + 21 ∧ a ≠ x + 11) ∧ ¬ xR x a j) : CT G h' x la A T ln im pa r b n fl := by
  obtain ⟨C0, ⟨u, Tp⟩, S, e⟩ := C
  exact ⟨C0.keep F (fun a j _ _ q z => by have := n1 a j z; omega) (fun a j _ z => by have := n1 a j z; omega), ⟨u, Tp.keep F (fun a j z q => by have := n1 a j q; omega)⟩, S.keep (fun a _ _ => by rw [F.1]) (fun a j z => F.2.2 a j (fun q => (n1 a j q).2 z)), by rw [F.2.2 x 12 (fun q => by have := n1 _ _ q; omega)]; exact e⟩
theorem CQ_th (C : CT G h1 x la A T ln im pa r b n fl) (F : Fs (xZ x) h h1) {o : Res} {E : Nat} {k y : Int32} (z : thrw E h1 o h') (hk : ¬ k = 0) (e : excs E = es k) : ∃ E', o = .inr E' ∧ CQ G h x la A T ln im pa r b n fl es (k, y) (.inr E') h' := by
  obtain ⟨E', e1, e2⟩ := thrw_cans (P := xZ x) (y := y) z F hk e
  obtain ⟨z1, k, z2, rfl⟩ := z
  exact ⟨E', e1, e2, C.nx ⟨rfl, z2, fun _ _ _ => rfl⟩⟩
theorem xZ_rf : Fs (xZ x) h h := Fs.rf
theorem c_useUp (hl : G.1.stackTraces = false) (hx : G.n0 ≤ x) (C : CT G h x la A T ln im pa r b n fl) : EvM G m_Ta_useUp [.ref (x + 1)] h (fun o h' => o = .inl none ∧ CT G h' x la A T ln im pa r b 0 fl ∧ TpC h' x b 0 n ∧ Fs (xZ x) h h') := by
  obtain ⟨C0, ⟨u, Tp⟩, S, e⟩ := C
  refine (t_useUp hl hx Tp).post (fun o h' z => ?_)
  obtain ⟨z1, T', F⟩ := z
  exact ⟨z1, ⟨C0.keep F (fun a j h1 h2 q z => by unfold tP at z; omega) (fun a j q z => by unfold tP at z; omega), ⟨n, T'⟩, S.keep (fun a _ _ => by rw [F.1]) (fun a j z => F.2.2 a j (by unfold xR at z; unfold tP; omega)), by rw [F.2.2 x 12 (by unfold tP; omega)]; exact e⟩, T', F.mono (fun a j z => by unfold tP at z; unfold xZ; omega)⟩
theorem MT.W (X : MT G h m A T ln im pa r b n fl) : WldAt h m A := X.1.W
theorem MT.act (X : MT G h m A T ln im pa r b n fl) (M' : MV G h' m A' T ln im' pa' r') (F : Fs (mA m) h h') : MT G h' m A' T ln im' pa' r' b n fl := by
  obtain ⟨-, ⟨e, Tp⟩, q⟩ := X
  exact ⟨M', ⟨e, Tp.keep F (fun a j z => by unfold mA; omega)⟩, by rw [F.2.2 m 14 (by unfold mA; omega)]; exact q⟩
theorem MT.thr (X : MT G h m A T ln im pa r b n fl) (c : Int32) : MT G (hset h m 0 (.int c)) m A T ln im pa r b n fl := X.act (X.1.thr c) mA_0
theorem MT.keep (X : MT G h m A T ln im pa r b n fl) {P : Nat → Nat → Prop} (F : Fs P h h') (n1 : ∀ a j, m ≤ a → a ≤ m + 15 → ¬ P a j) : MT G h' m A T ln im pa r b n fl := by
  obtain ⟨M, ⟨e, Tp⟩, q⟩ := X
  exact ⟨M.keep F (fun a j h1 h2 _ => n1 a j h1 (by omega)), ⟨e, Tp.keep F (fun a j z => n1 a j (by omega) (by omega))⟩, by rw [F.2.2 m 14 (n1 _ _ (by omega) (by omega))]; exact q⟩
theorem MQt_no (X : MT G h1 m A T ln im pa r b n fl) (F : Fs (mZ m) h h1) (k : Int32) : MQt G h m A T ln im pa r b n fl (k, 0) (.inl (some (.int 0))) (hset h1 m 0 (.int k)) :=
  ⟨rfl, hs_eq, X.thr k, F.set (by unfold mZ; omega)⟩
theorem o_used (hl : G.1.stackTraces = false) (hm : G.n0 ≤ m) (X : MT G h m A T ln im pa r b n fl) : EvM G m_Mo_uses [.ref m] h (fun o h' => o = .inl none ∧ MT G h' m A T ln im pa r b 0 fl ∧ TpM h' m b 0 n ∧ h'.2.1 m 0 = .int 0 ∧ Fs (mZ m) h h' ∧ h'.2.1 m 10 = .int 0) := by
  obtain ⟨M, ⟨e, Tp⟩, q⟩ := X
  refine (o_uses hl hm Tp).post (fun o h' z => ?_)
  obtain ⟨z1, T', F, z4⟩ := z
  have M0 := M.thr 0
  refine ⟨z1, ⟨M0.keep F (fun a j h1 h2 q z => by unfold mT at z; omega), ⟨n, T'⟩, ?_⟩, T', ?_, (Fs.rf.set (by unfold mZ; omega)).tr (F.mono (fun a j z => by unfold mT at z; unfold mZ; omega)), z4⟩
  · rw [F.2.2 m 14 (by unfold mT; omega), hs_ne (by omega)]; exact q
  · rw [F.2.2 m 0 (by unfold mT; omega)]; exact hs_eq
end FULL
def heldQ (A : Vs) (b : Nat → Nat) (n : Nat) : Int32 × Int32 := if rowF okT b n = 1 then (0, fitF A b n) else (1, 0)
def likQ (A : Vs) (b : Nat → Nat) (n : Nat) : Int32 × Int32 := if rowF okT b n = 1 then (0, likF A b n) else (1, 0)
def askQ (A : Vs) (b : Nat → Nat) (n : Nat) : Int32 × Int32 := if rowF okT b n = 1 then (0, askF A (fitF A b n)) else (1, 0)
def stgQ (b : Nat → Nat) (n : Nat) (l : Int32) : Int32 × Int32 := if rowF okS b n = 1 then (0, if l = 0 then nI (mnF b n 0) else lsF b n) else (1, 0)
def tstQ (b : Nat → Nat) (n : Nat) : Int32 × Int32 := if rowF okS b n = 1 then (0, tsF b n) else (1, 0)
def fngQ (b : Nat → Nat) (n : Nat) (k : Int32) : Int32 × Int32 := if noF (nI 100) k = 1 then (1, 0) else if dgF b n = 1 then (0, if opF b n k.toNatClampNeg = -1 then 0 else 1) else (1, 0)
def opnQ (b : Nat → Nat) (n : Nat) (k : Int32) : Int32 × Int32 := if noF (nI 100) k = 1 then (1, 0) else if dgF b n = 1 then (0, opF b n k.toNatClampNeg) else (1, 0)
section TCALL
variable {G : Gx} {h h' h1 : Hp} {x la m : Nat} {A A' : Vs} {T : Tt} {ln : Int32} {im im' : Option Sv} {pa pa' : Nat → Vs} {r r' : Nat} {b : Nat → Nat} {n : Nat} {fl : Int32}
theorem c_held (hl : G.1.stackTraces = false) (hx : G.n0 ≤ x) (C : CT G h x la A T ln im pa r b n fl) (W : Wf A) : EvM G m_Gr_held [.ref x] h (CQ G h x la A T ln im pa r b 0 fl (es3 0 0 0) (heldQ A b n)) := by
  refine en_Gr_held h _ x (e_Gr_held_0 hl h _ x ⟨_, C.S.r0, C.tk, _, c_useUp hl hx C, fun o h2 z => Or.inl ?_⟩)
  obtain ⟨z1, C2, T2, F2⟩ := z
  refine ⟨z1, _, C2.S.r0, _, t_tellsThings hl T2, ?_⟩
  unfold heldQ
  rcases rowF_01 (ok := okT) (b := b) (u := n) with e | e
  · rw [e, if_neg (by decide)]
    exact ⟨_, c_needNumber0 hl, by decide, fun o h1 z => Or.inr (CQ_th C2 F2 z (by decide) rfl)⟩
  · rw [if_pos e, e]
    refine ⟨_, c_needNumber1 hl, by decide, fun o h1 z => Or.inl ⟨z.1, ?_⟩⟩
    rw [z.2]
    exact ⟨_, C2.S.r0, _, C2.S.r5, _, t_fit hl T2 C2.V W.1 e, cans_ok F2, C2⟩
theorem c_likely (hl : G.1.stackTraces = false) (hx : G.n0 ≤ x) (C : CT G h x la A T ln im pa r b n fl) (W : Wf A) : EvM G m_Gr_likely [.ref x] h (CQ G h x la A T ln im pa r b 0 fl (es3 0 0 0) (likQ A b n)) := by
  refine en_Gr_likely h _ x (e_Gr_likely_0 hl h _ x ⟨_, C.S.r0, C.tk, _, c_useUp hl hx C, fun o h2 z => Or.inl ?_⟩)
  obtain ⟨z1, C2, T2, F2⟩ := z
  refine ⟨z1, _, C2.S.r0, _, t_tellsThings hl T2, ?_⟩
  unfold likQ
  rcases rowF_01 (ok := okT) (b := b) (u := n) with e | e
  · rw [e, if_neg (by decide)]
    exact ⟨_, c_needNumber0 hl, by decide, fun o h1 z => Or.inr (CQ_th C2 F2 z (by decide) rfl)⟩
  · rw [if_pos e, e]
    refine ⟨_, c_needNumber1 hl, by decide, fun o h1 z => Or.inl ⟨z.1, ?_⟩⟩
    rw [z.2]
    exact ⟨_, C2.S.r0, _, C2.S.r5, _, t_likely hl T2 C2.V W.1 e, cans_ok F2, C2⟩
theorem c_ask (hl : G.1.stackTraces = false) (hx : G.n0 ≤ x) (C : CT G h x la A T ln im pa r b n fl) (W : Wf A) : EvM G m_Gr_ask [.ref x] h (CQ G h x la A T ln im pa r b 0 fl (es3 0 0 0) (askQ A b n)) := by
  refine en_Gr_ask h _ x (e_Gr_ask_0 hl h _ x ⟨_, C.S.r0, C.tk, _, c_useUp hl hx C, fun o h2 z => Or.inl ?_⟩)
  obtain ⟨z1, C2, T2, F2⟩ := z
  refine ⟨z1, _, C2.S.r0, _, t_tellsThings hl T2, ?_⟩
  unfold askQ
  rcases rowF_01 (ok := okT) (b := b) (u := n) with e | e
  · rw [e, if_neg (by decide)]
    exact ⟨_, c_needNumber0 hl, by decide, fun o h1 z => Or.inr (CQ_th C2 F2 z (by decide) rfl)⟩
  · rw [if_pos e, e]
    refine ⟨_, c_needNumber1 hl, by decide, fun o h1 z => Or.inl ⟨z.1, ?_⟩⟩
    rw [z.2]
    exact ⟨_, C2.S.r5, _, C2.S.r0, _, C2.S.r5, _, t_fit hl T2 C2.V W.1 e, _, t_ask hl C2.V W.1 _, cans_ok F2, C2⟩
theorem c_strong (hl : G.1.stackTraces = false) (hx : G.n0 ≤ x) (C : CT G h x la A T ln im pa r b n fl) (l : Int32) : EvM G m_Gr_strong [.ref x, .int l] h (CQ G h x la A T ln im pa r b 0 fl (es3 0 0 0) (stgQ b n l)) := by
  refine en_Gr_strong h _ x _ (e_Gr_strong_0 hl h _ x _ ⟨_, C.S.r0, C.tk, _, c_useUp hl hx C, fun o h2 z => Or.inl ?_⟩)
  obtain ⟨z1, C2, T2, F2⟩ := z
  refine ⟨z1, _, C2.S.r0, _, t_tellsSizes hl T2, ?_⟩
  unfold stgQ
  rcases rowF_01 (ok := okS) (b := b) (u := n) with e | e
  · rw [e, if_neg (by decide)]
    exact ⟨_, c_needNumber0 hl, by decide, fun o h1 z => Or.inr (CQ_th C2 F2 z (by decide) rfl)⟩
  · rw [if_pos e, e]
    refine ⟨_, c_needNumber1 hl, by decide, fun o h1 z => Or.inl ⟨z.1, ?_⟩⟩
    rw [z.2]
    refine ⟨fun c => ⟨_, C2.S.r0, _, t_fs hl T2 e, _, j_bitCount hl _, ?_⟩, fun c => ⟨_, C2.S.r0, _, t_least hl T2 e, ?_⟩⟩
    · rw [if_pos c, bc_fs0]; exact ⟨cans_ok F2, C2⟩
    · rw [if_neg c]; exact ⟨cans_ok F2, C2⟩
theorem c_test (hl : G.1.stackTraces = false) (hx : G.n0 ≤ x) (C : CT G h x la A T ln im pa r b n fl) : EvM G m_Gr_test [.ref x] h (CQ G h x la A T ln im pa r b 0 fl (es3 0 0 0) (tstQ b n)) := by
  refine en_Gr_test h _ x (e_Gr_test_0 hl h _ x ⟨_, C.S.r0, C.tk, _, c_useUp hl hx C, fun o h2 z => Or.inl ?_⟩)
  obtain ⟨z1, C2, T2, F2⟩ := z
  refine ⟨z1, _, C2.S.r0, _, t_tellsSizes hl T2, ?_⟩
  unfold tstQ
  rcases rowF_01 (ok := okS) (b := b) (u := n) with e | e
  · rw [e, if_neg (by decide)]
    exact ⟨_, c_needNumber0 hl, by decide, fun o h1 z => Or.inr (CQ_th C2 F2 z (by decide) rfl)⟩
  · rw [if_pos e, e]
    refine ⟨_, c_needNumber1 hl, by decide, fun o h1 z => Or.inl ⟨z.1, ?_⟩⟩
    rw [z.2]
    exact ⟨_, C2.S.r0, _, t_fs hl T2 e, _, t_bestSize hl, cans_ok F2, C2⟩
theorem CT.told (C : CT G h x la A T ln im pa r b n fl) : TdS h x := C.2.2.1.1
theorem CT.win (C : CT G h x la A T ln im pa r b n fl) (F : Fs (xF (x + 4)) h h') : CT G h' x la A T ln im pa r b n fl ∧ Fs (xZ x) h h' :=
  ⟨C.small F (fun a j z => by unfold xF at z; unfold xR; omega), F.mono (fun a j z => by unfold xF at z; unfold xZ; omega)⟩
theorem c_fingers (hl : G.1.stackTraces = false) (hx : G.n0 ≤ x) (C : CT G h x la A T ln im pa r b n fl) (k : Int32) : EvM G m_Gr_fingers [.ref x, .int k] h (CQ G h x la A T ln im pa r b 0 fl (es3 0 0 0) (fngQ b n k)) := by
  refine en_Gr_fingers h _ x _ (e_Gr_fingers_0 hl h _ x _ ⟨_, C.S.r0, C.tk, _, c_useUp hl hx C, fun o h2 z => Or.inl ?_⟩)
  obtain ⟨z1, C2, T2, F2⟩ := z
  refine ⟨z1, _, C2.S.r0, _, t_tellsFingers hl T2, ?_⟩
  have no : ∀ {y : Int32}, ∃ Q : Res → Hp → Prop, EvM G m_Gr_needNumber [.int 0] h2 Q ∧ ∀ o h1, Q o h1 → ∃ E', o = .inr E' ∧ CQ G h x la A T ln im pa r b 0 fl (es3 0 0 0) (1, y) (.inr E') h1 := ⟨_, c_needNumber0 hl, fun o h1 z => CQ_th C2 F2 z (by decide) rfl⟩
  unfold fngQ
  rcases num_cases 100 (by decide) k with ⟨e, q⟩ | ⟨e, q0, q1, j, hj, rfl⟩
  · rw [if_pos e]
    obtain ⟨Q, y1, y2⟩ := no (y := 0)
    refine ⟨fun _ => ⟨_, y1, by decide, fun o h1 z => Or.inr (y2 o h1 z)⟩, fun _ => ⟨fun _ => ⟨_, y1, by decide, fun o h1 z => Or.inr (y2 o h1 z)⟩, fun c1 => ⟨fun _ => ⟨_, y1, by decide, fun o h1 z => Or.inr (y2 o h1 z)⟩, fun c2 => ?_⟩⟩⟩
    rcases q with q | q
    · exact absurd q c1
    · exact absurd (Int32.lt_of_lt_of_le (by decide) q) c2
  · rw [if_neg (by rw [e]; decide), nI_clamp (by omega)]
    rcases dgF_01 (b := b) (u := n) with e2 | e2
    · rw [e2, if_neg (by decide)]
      obtain ⟨Q, y1, y2⟩ := no (y := 0)
      exact ⟨fun _ => ⟨_, y1, by decide, fun o h1 z => Or.inr (y2 o h1 z)⟩, fun z => absurd rfl z⟩
    · rw [if_pos e2, e2]
      refine ⟨fun z => absurd z (by decide), fun _ => ⟨fun z => absurd z q0, fun _ => ⟨fun z => absurd z (nI_nlt (a := 99) (by omega) (by decide)), fun _ => ⟨_, c_needNumber1 hl, by decide, fun o h1 z => Or.inl ⟨z.1, ?_⟩⟩⟩⟩⟩
      rw [z.2]
      refine ⟨_, C2.S.r3, _, C2.S.r0, by rw [C2.told.1], _, t_win hl hx T2 C2.told e2 hj, fun o3 h3 y => Or.inl ?_⟩
      obtain ⟨C3, F3⟩ := C2.win y.2
      refine ⟨_, y.1, fun c => ?_, fun c => ?_⟩
      · rw [if_pos c]; exact ⟨cans_ok (F2.tr F3), C3⟩
      · rw [if_neg c]; exact ⟨cans_ok (F2.tr F3), C3⟩
theorem c_opens (hl : G.1.stackTraces = false) (hx : G.n0 ≤ x) (C : CT G h x la A T ln im pa r b n fl) (k : Int32) : EvM G m_Gr_opens [.ref x, .int k] h (CQ G h x la A T ln im pa r b 0 fl (es3 0 0 0) (opnQ b n k)) := by
  refine en_Gr_opens h _ x _ (e_Gr_opens_0 hl h _ x _ ⟨_, C.S.r0, C.tk, _, c_useUp hl hx C, fun o h2 z => Or.inl ?_⟩)
  obtain ⟨z1, C2, T2, F2⟩ := z
  refine ⟨z1, _, C2.S.r0, _, t_tellsFingers hl T2, ?_⟩
  have no : ∀ {y : Int32}, ∃ Q : Res → Hp → Prop, EvM G m_Gr_needNumber [.int 0] h2 Q ∧ ∀ o h1, Q o h1 → ∃ E', o = .inr E' ∧ CQ G h x la A T ln im pa r b 0 fl (es3 0 0 0) (1, y) (.inr E') h1 := ⟨_, c_needNumber0 hl, fun o h1 z => CQ_th C2 F2 z (by decide) rfl⟩
  unfold opnQ
  rcases num_cases 100 (by decide) k with ⟨e, q⟩ | ⟨e, q0, q1, j, hj, rfl⟩
  · rw [if_pos e]
    obtain ⟨Q, y1, y2⟩ := no (y := 0)
    refine ⟨fun _ => ⟨_, y1, by decide, fun o h1 z => Or.inr (y2 o h1 z)⟩, fun _ => ⟨fun _ => ⟨_, y1, by decide, fun o h1 z => Or.inr (y2 o h1 z)⟩, fun c1 => ⟨fun _ => ⟨_, y1, by decide, fun o h1 z => Or.inr (y2 o h1 z)⟩, fun c2 => ?_⟩⟩⟩
    rcases q with q | q
    · exact absurd q c1
    · exact absurd (Int32.lt_of_lt_of_le (by decide) q) c2
  · rw [if_neg (by rw [e]; decide), nI_clamp (by omega)]
    rcases dgF_01 (b := b) (u := n) with e2 | e2
    · rw [e2, if_neg (by decide)]
      obtain ⟨Q, y1, y2⟩ := no (y := 0)
      exact ⟨fun _ => ⟨_, y1, by decide, fun o h1 z => Or.inr (y2 o h1 z)⟩, fun z => absurd rfl z⟩
    · rw [if_pos e2, e2]
      refine ⟨fun z => absurd z (by decide), fun _ => ⟨fun z => absurd z q0, fun _ => ⟨fun z => absurd z (nI_nlt (a := 99) (by omega) (by decide)), fun _ => ⟨_, c_needNumber1 hl, by decide, fun o h1 z => Or.inl ⟨z.1, ?_⟩⟩⟩⟩⟩
      rw [z.2]
      refine ⟨_, C2.S.r3, _, C2.S.r0, by rw [C2.told.1], _, t_win hl hx T2 C2.told e2 hj, fun o3 h3 y => Or.inl ?_⟩
      obtain ⟨C3, F3⟩ := C2.win y.2
      exact ⟨_, y.1, cans_ok (F2.tr F3), C3⟩
theorem p_held (hl : G.1.stackTraces = false) (hm : G.n0 ≤ m) (X : MT G h m A T ln im pa r b n fl) (F : Wf A) : EvM G m_Mo_held [.ref m] h (MQt G h m A T ln im pa r b 0 fl (heldQ A b n)) := by
  refine en_Mo_held h _ m (e_Mo_held_0 hl h _ m ⟨X.W.kd, _, o_used hl hm X, fun o h1 z => Or.inl ?_⟩)
  obtain ⟨z1, X1, T1, e0, F1, -⟩ := z
  refine ⟨z1, X1.W.kd, _, o_isHeld hl T1, ?_⟩
  unfold heldQ
  rcases rowF_01 (ok := okT) (b := b) (u := n) with e | e
  · rw [e, if_neg (by decide)]
    refine ⟨fun c => absurd rfl c, fun _ => ⟨X1.W.kd, _, o_thr1 hl hm X1.W 1, fun o2 h2 y => Or.inl ⟨1, y.1, fun q => absurd q (by decide), fun _ => ?_⟩⟩⟩
    rw [y.2]; exact MQt_no X1 F1 1
  · rw [if_pos e, e]
    refine ⟨fun _ => ⟨X1.W.kd, _, o_thr0 hl 1, fun o2 h2 y => Or.inl ⟨0, y.1, fun _ => ?_, fun q => absurd rfl q⟩⟩, fun c => absurd c (by decide)⟩
    rw [y.2]
    exact ⟨X1.W.kd, _, o_fit hl T1 X1.W F.1 e, rfl, e0, X1, F1⟩
theorem p_likely (hl : G.1.stackTraces = false) (hm : G.n0 ≤ m) (X : MT G h m A T ln im pa r b n fl) (F : Wf A) : EvM G m_Mo_likely [.ref m] h (MQt G h m A T ln im pa r b 0 fl (likQ A b n)) := by
  refine en_Mo_likely h _ m (e_Mo_likely_0 hl h _ m ⟨X.W.kd, _, o_used hl hm X, fun o h1 z => Or.inl ?_⟩)
  obtain ⟨z1, X1, T1, e0, F1, -⟩ := z
  refine ⟨z1, X1.W.kd, _, o_isHeld hl T1, ?_⟩
  unfold likQ
  rcases rowF_01 (ok := okT) (b := b) (u := n) with e | e
  · rw [e, if_neg (by decide)]
    refine ⟨fun c => absurd rfl c, fun _ => ⟨X1.W.kd, _, o_thr1 hl hm X1.W 1, fun o2 h2 y => Or.inl ⟨1, y.1, fun q => absurd q (by decide), fun _ => ?_⟩⟩⟩
    rw [y.2]; exact MQt_no X1 F1 1
  · rw [if_pos e, e]
    refine ⟨fun _ => ⟨X1.W.kd, _, o_thr0 hl 1, fun o2 h2 y => Or.inl ⟨0, y.1, fun _ => ?_, fun q => absurd rfl q⟩⟩, fun c => absurd c (by decide)⟩
    rw [y.2]
    exact o_likely30 hl T1 X1.W F.1 e ⟨rfl, e0, X1, F1⟩
theorem p_ask (hl : G.1.stackTraces = false) (hm : G.n0 ≤ m) (X : MT G h m A T ln im pa r b n fl) (F : Wf A) : EvM G m_Mo_ask [.ref m] h (MQt G h m A T ln im pa r b 0 fl (askQ A b n)) := by
  refine en_Mo_ask h _ m (e_Mo_ask_0 hl h _ m ⟨X.W.kd, _, o_used hl hm X, fun o h1 z => Or.inl ?_⟩)
  obtain ⟨z1, X1, T1, e0, F1, -⟩ := z
  refine ⟨z1, X1.W.kd, _, o_isHeld hl T1, ?_⟩
  unfold askQ
  rcases rowF_01 (ok := okT) (b := b) (u := n) with e | e
  · rw [e, if_neg (by decide)]
    refine ⟨fun c => absurd rfl c, fun _ => ⟨X1.W.kd, _, o_thr1 hl hm X1.W 1, fun o2 h2 y => Or.inl ⟨1, y.1, fun q => absurd q (by decide), fun _ => ?_⟩⟩⟩
    rw [y.2]; exact MQt_no X1 F1 1
  · rw [if_pos e, e]
    refine ⟨fun _ => ⟨X1.W.kd, _, o_thr0 hl 1, fun o2 h2 y => Or.inl ⟨0, y.1, fun _ => ?_, fun q => absurd rfl q⟩⟩, fun c => absurd c (by decide)⟩
    rw [y.2]
    exact ⟨X1.W.kd, _, o_fit hl T1 X1.W F.1 e, o_ask40 hl X1.W F.1 _ ⟨rfl, e0, X1, F1⟩⟩
theorem p_strong (hl : G.1.stackTraces = false) (hm : G.n0 ≤ m) (X : MT G h m A T ln im pa r b n fl) (l : Int32) : EvM G m_Mo_strong [.ref m, .int l] h (MQt G h m A T ln im pa r b 0 fl (stgQ b n l)) := by
  refine en_Mo_strong h _ m _ (e_Mo_strong_0 hl h _ m _ ⟨X.W.kd, _, o_used hl hm X, fun o h1 z => Or.inl ?_⟩)
  obtain ⟨z1, X1, T1, e0, F1, -⟩ := z
  refine ⟨z1, X1.W.kd, _, o_isStrong hl T1, ?_⟩
  unfold stgQ
  rcases rowF_01 (ok := okS) (b := b) (u := n) with e | e
  · rw [e, if_neg (by decide)]
    refine ⟨fun c => absurd rfl c, fun _ => ⟨X1.W.kd, _, o_thr1 hl hm X1.W 1, fun o2 h2 y => Or.inl ⟨1, y.1, fun q => absurd q (by decide), fun _ => ?_⟩⟩⟩
    rw [y.2]; exact MQt_no X1 F1 1
  · rw [if_pos e, e]
    refine ⟨fun _ => ⟨X1.W.kd, _, o_thr0 hl 1, fun o2 h2 y => Or.inl ⟨0, y.1, fun _ => ?_, fun q => absurd rfl q⟩⟩, fun c => absurd c (by decide)⟩
    rw [y.2]
    exact o_strong33 hl T1 X1.W e l ⟨rfl, e0, X1, F1⟩
theorem p_test (hl : G.1.stackTraces = false) (hm : G.n0 ≤ m) (X : MT G h m A T ln im pa r b n fl) : EvM G m_Mo_test [.ref m] h (MQt G h m A T ln im pa r b 0 fl (tstQ b n)) := by
  refine en_Mo_test h _ m (e_Mo_test_0 hl h _ m ⟨X.W.kd, _, o_used hl hm X, fun o h1 z => Or.inl ?_⟩)
  obtain ⟨z1, X1, T1, e0, F1, -⟩ := z
  refine ⟨z1, X1.W.kd, _, o_isStrong hl T1, ?_⟩
  unfold tstQ
  rcases rowF_01 (ok := okS) (b := b) (u := n) with e | e
  · rw [e, if_neg (by decide)]
    refine ⟨fun c => absurd rfl c, fun _ => ⟨X1.W.kd, _, o_thr1 hl hm X1.W 1, fun o2 h2 y => Or.inl ⟨1, y.1, fun q => absurd q (by decide), fun _ => ?_⟩⟩⟩
    rw [y.2]; exact MQt_no X1 F1 1
  · rw [if_pos e, e]
    refine ⟨fun _ => ⟨X1.W.kd, _, o_thr0 hl 1, fun o2 h2 y => Or.inl ⟨0, y.1, fun _ => ?_, fun q => absurd rfl q⟩⟩, fun c => absurd c (by decide)⟩
    rw [y.2]
    exact ⟨X1.W.kd, _, o_many hl T1 X1.W (k := 0) (by omega) e, o_test41 hl T1 X1.W e ⟨rfl, e0, X1, F1⟩⟩
theorem MT.win (X : MT G h m A T ln im pa r b n fl) (F : Fs (xF (m + 14)) h h') : MT G h' m A T ln im pa r b n fl ∧ Fs (mZ m) h h' ∧ h'.2.1 m 0 = h.2.1 m 0 := by
  obtain ⟨M, ⟨e, Tp⟩, q⟩ := X
  exact ⟨⟨M.keep F (fun a j h1 h2 _ z => by unfold xF at z; omega), ⟨e, Tp.keep F (fun a j z q => by unfold xF at q; omega)⟩, by rw [F.2.2 m 14 (by unfold xF; omega)]; exact q⟩, F.mono (fun a j z => by unfold xF at z; unfold mZ; omega), F.2.2 m 0 (by unfold xF; omega)⟩
theorem MT.r23 (X : MT G h m A T ln im pa r b n fl) : h.2.1 m 23 = .ref (m + 14) := X.W.1.1.2.2.2.2.2.2.2.2.2.2.2.2.2.2.1
theorem MT.s14 (X : MT G h m A T ln im pa r b n fl) : h.1 (m + 14) = (102, 100) := X.W.1.2.2.2.2.2.2.2.2.2.2.2.2.2.2.1
theorem p_fingers (hl : G.1.stackTraces = false) (hm : G.n0 ≤ m) (X : MT G h m A T ln im pa r b n fl) (k : Int32) : EvM G m_Mo_fingers [.ref m, .int k] h (MQt G h m A T ln im pa r b 0 fl (fngQ b n k)) := by
  refine en_Mo_fingers h _ m _ (e_Mo_fingers_0 hl h _ m _ ⟨X.W.kd, _, o_used hl hm X, fun o h1 z => Or.inl ?_⟩)
  obtain ⟨z1, X1, T1, e0, F1, -⟩ := z
  refine ⟨z1, X1.W.kd, _, o_isFingers hl T1 k, ?_⟩
  unfold fngQ
  rcases num_cases 100 (by decide) k with ⟨e, q⟩ | ⟨e, q0, q1, j, hj, rfl⟩
  · rw [if_pos e, if_pos e]
    refine ⟨fun c => absurd rfl c, fun _ => ⟨X1.W.kd, _, o_thr1 hl hm X1.W 1, fun o2 h2 y => Or.inl ⟨1, y.1, fun q => absurd q (by decide), fun _ => ?_⟩⟩⟩
    rw [y.2]; exact MQt_no X1 F1 1
  · have ne : ¬ noF (nI 100) (nI j) = 1 := by rw [e]; decide
    rw [if_neg ne, if_neg ne, nI_clamp (by omega)]
    rcases dgF_01 (b := b) (u := n) with e2 | e2
    · rw [e2, if_neg (by decide)]
      refine ⟨fun c => absurd rfl c, fun _ => ⟨X1.W.kd, _, o_thr1 hl hm X1.W 1, fun o2 h2 y => Or.inl ⟨1, y.1, fun q => absurd q (by decide), fun _ => ?_⟩⟩⟩
      rw [y.2]; exact MQt_no X1 F1 1
    · rw [if_pos e2, e2]
      refine ⟨fun _ => ⟨X1.W.kd, _, o_thr0 hl 1, fun o2 h2 y => Or.inl ⟨0, y.1, fun _ => ?_, fun q => absurd rfl q⟩⟩, fun c => absurd c (by decide)⟩
      rw [y.2]
      refine ⟨X1.W.kd, _, o_lays hl hm T1 X1.r23 X1.s14 e2, fun o3 h3 w => Or.inl ⟨w.1, ?_⟩⟩
      obtain ⟨X3, F3, e3⟩ := X1.win w.2.1
      have ev : b2i (wnT b n 100 j) = if opF b n j = -1 then 0 else 1 := by
        rw [← wn_op2 (dgF_ok e2).2 hj]
      refine ⟨_, ⟨X3.W.kd, X3.r23⟩, b2i (wnT b n 100 j), aI_of X3.s14 hj (by decide) (w.2.2 j hj), bret_of ?_ ?_⟩
      · cases wnT b n 100 j
        · exact Or.inl rfl
        · exact Or.inr rfl
      · rw [ev]; exact ⟨rfl, by rw [e3]; exact e0, X3, F1.tr F3⟩
theorem p_opens (hl : G.1.stackTraces = false) (hm : G.n0 ≤ m) (X : MT G h m A T ln im pa r b n fl) (k : Int32) : EvM G m_Mo_opens [.ref m, .int k] h (MQt G h m A T ln im pa r b 0 fl (opnQ b n k)) := by
  refine en_Mo_opens h _ m _ (e_Mo_opens_0 hl h _ m _ ⟨X.W.kd, _, o_used hl hm X, fun o h1 z => Or.inl ?_⟩)
  obtain ⟨z1, X1, T1, e0, F1, -⟩ := z
  refine ⟨z1, X1.W.kd, _, o_isFingers hl T1 k, ?_⟩
  unfold opnQ
  rcases num_cases 100 (by decide) k with ⟨e, q⟩ | ⟨e, q0, q1, j, hj, rfl⟩
  · rw [if_pos e, if_pos e]
    refine ⟨fun c => absurd rfl c, fun _ => ⟨X1.W.kd, _, o_thr1 hl hm X1.W 1, fun o2 h2 y => Or.inl ⟨1, y.1, fun q => absurd q (by decide), fun _ => ?_⟩⟩⟩
    rw [y.2]; exact MQt_no X1 F1 1
  · have ne : ¬ noF (nI 100) (nI j) = 1 := by rw [e]; decide
    rw [if_neg ne, if_neg ne, nI_clamp (by omega)]
    rcases dgF_01 (b := b) (u := n) with e2 | e2
    · rw [e2, if_neg (by decide)]
      refine ⟨fun c => absurd rfl c, fun _ => ⟨X1.W.kd, _, o_thr1 hl hm X1.W 1, fun o2 h2 y => Or.inl ⟨1, y.1, fun q => absurd q (by decide), fun _ => ?_⟩⟩⟩
      rw [y.2]; exact MQt_no X1 F1 1
    · rw [if_pos e2, e2]
      refine ⟨fun _ => ⟨X1.W.kd, _, o_thr0 hl 1, fun o2 h2 y => Or.inl ⟨0, y.1, fun _ => ?_, fun q => absurd rfl q⟩⟩, fun c => absurd c (by decide)⟩
      rw [y.2]
      refine ⟨X1.W.kd, _, o_lays hl hm T1 X1.r23 X1.s14 e2, fun o3 h3 w => Or.inl ⟨w.1, ?_⟩⟩
      obtain ⟨X3, F3, e3⟩ := X1.win w.2.1
      exact o_opens37 hl (T1.keep w.2.1 (fun a j z q => by unfold xF at q; omega)) X3.r23 X3.s14 e2 w.2.2 hj ⟨rfl, by rw [e3]; exact e0, X3, F1.tr F3⟩
end TCALL
