/-! ===== what the class holds between calls ===== -/
/-- a valley, its law, the law's lines -/
abbrev Sv : Type := Vs × Tt × Int32
def XSh (h : Hp) (x : Nat) : Prop :=
  (h.1 x = (10, 13) ∧ h.2.1 x 0 = .ref (x + 1) ∧ h.2.1 x 1 = .ref (x + 16) ∧ h.2.1 x 2 = .ref (x + 17) ∧ h.2.1 x 3 = .ref (x + 3) ∧ h.2.1 x 4 = .ref (x + 5) ∧ h.2.1 x 5 = .ref (x + 27) ∧ h.2.1 x 6 = .ref (x + 38) ∧ h.2.1 x 7 = .ref (x + 49) ∧ h.2.1 x 8 = .ref (x + 11)) ∧
  (h.1 (x + 11) = (106, 12) ∧ ∀ i, i < 12 → h.2.1 (x + 11) i = .ref (x + 60 + 11 * i)) ∧ ∀ i, i < 15 → VS h (x + 27 + 11 * i)
def LwAt (G : Gx) (h : Hp) (x la : Nat) (T : Tt) (ln : Int32) : Prop := LawOk G h la T ∧ (la = x + 22 ∨ x + 209 ≤ la) ∧ la + 5 ≤ h.2.2 ∧ fI h 1 la 0 ln
def ImC (G : Gx) (h : Hp) (x : Nat) (im : Option Sv) : Prop := match im with
  | none => h.2.1 x 9 = .int 0
  | some q => h.2.1 x 9 = .int 1 ∧ ∃ li, VlyAt h (x + 49) q.1 li ∧ LwAt G h x li q.2.1 q.2.2
def CVl (G : Gx) (h : Hp) (x la : Nat) (A : Vs) (T : Tt) (ln : Int32) (im : Option Sv) (pa : Nat → Vs) (r : Nat) : Prop :=
  XSh h x ∧ VlyAt h (x + 27) A la ∧ LwAt G h x la T ln ∧ ImC G h x im ∧ ∃ np, np < 12 ∧ r ≤ 12 ∧ h.2.1 x 10 = .int (nI r) ∧ h.2.1 x 11 = .int (nI np) ∧ ∀ i, i < r → VlyAt h (x + 60 + 11 * ((np + 11 - i) % 12)) (pa i) la
/-- a valley, and the class's own numbers -/
def pX (x u : Nat) : Nat → Nat → Prop := fun a j => (a = x ∧ (9 ≤ j ∧ j ≤ 11)) ∨ (u ≤ a ∧ a ≤ u + 10)
/-- what acts may change -/
def aX (x : Nat) : Nat → Nat → Prop := fun a j => (a = x ∧ (9 ≤ j ∧ j ≤ 11)) ∨ (x + 27 ≤ a ∧ a < x + 192)
def pcons (A : Vs) (pa : Nat → Vs) : Nat → Vs := fun i => match i with
  | 0 => A
  | i + 1 => pa i
theorem aR_of {h : Hp} {kd a n i b : Nat} (hk : h.1 a = (kd, n)) (hi : i < n) (hn : n < 2 ^ 31) (hx : h.2.1 a i = .ref b) : aR h kd a (nI i) b := ⟨n, hk, vp_in_nI hi hn, by rw [nI_clamp (by omega)]; exact hx⟩
section ST
variable {G : Gx} {h h' : Hp} {x la u v : Nat} {A A' : Vs} {T : Tt} {ln : Int32} {im : Option Sv} {pa : Nat → Vs} {r : Nat}
theorem XSh.kd (S : XSh h x) : (h.1 x).1 = 10 := by rw [S.1.1]
theorem XSh.r0 (S : XSh h x) : fR h 10 x 0 (x + 1) := ⟨S.kd, S.1.2.1⟩
theorem XSh.r1 (S : XSh h x) : fR h 10 x 1 (x + 16) := ⟨S.kd, S.1.2.2.1⟩
theorem XSh.r2 (S : XSh h x) : fR h 10 x 2 (x + 17) := ⟨S.kd, S.1.2.2.2.1⟩
theorem XSh.r3 (S : XSh h x) : fR h 10 x 3 (x + 3) := ⟨S.kd, S.1.2.2.2.2.1⟩
theorem XSh.r4 (S : XSh h x) : fR h 10 x 4 (x + 5) := ⟨S.kd, S.1.2.2.2.2.2.1⟩
theorem XSh.r5 (S : XSh h x) : fR h 10 x 5 (x + 27) := ⟨S.kd, S.1.2.2.2.2.2.2.1⟩
theorem XSh.r6 (S : XSh h x) : fR h 10 x 6 (x + 38) := ⟨S.kd, S.1.2.2.2.2.2.2.2.1⟩
theorem XSh.r7 (S : XSh h x) : fR h 10 x 7 (x + 49) := ⟨S.kd, S.1.2.2.2.2.2.2.2.2.1⟩
theorem XSh.r8 (S : XSh h x) : fR h 10 x 8 (x + 11) := ⟨S.kd, S.1.2.2.2.2.2.2.2.2.2⟩
theorem XSh.past (S : XSh h x) {i : Nat} (hi : i < 12) : aR h 106 (x + 11) (nI i) (x + 60 + 11 * i) := aR_of S.2.1.1 hi (by decide) (S.2.1.2 i hi)
theorem XSh.vsP (S : XSh h x) {i : Nat} (hi : i < 12) : VS h (x + 60 + 11 * i) := by
  have := S.2.2 (i + 3) (by omega)
  rw [show x + 27 + 11 * (i + 3) = x + 60 + 11 * i by omega] at this
  exact this
theorem XSh.vs1 (S : XSh h x) : VS h (x + 38) := S.2.2 1 (by omega)
theorem XSh.vs2 (S : XSh h x) : VS h (x + 49) := S.2.2 2 (by omega)
theorem VS.kd (S : VS h v) : (h.1 v).1 = 8 := by obtain ⟨⟨la, S1⟩, -⟩ := S; rw [S1.1.1]
theorem VSh.ref17 (S : VSh h v la) : h.2.1 v 17 = .ref la := S.1.2.2.2.2.2.2.2.2.2.1
theorem VS.keep (S : VS h v) (e : ∀ a, v ≤ a → a ≤ v + 10 → h'.1 a = h.1 a ∧ h'.2.1 a = h.2.1 a) : VS h' v := by
  obtain ⟨⟨la, S1⟩, S2⟩ := S
  have e0 := (e v (by omega) (by omega)).2
  exact ⟨⟨la, S1.keep (fun a h1 h2 => (e a h1 h2).1) (fun j _ => by rw [e0]) (by rw [e0]; exact S1.ref17)⟩, by rw [(e (v + 9) (by omega) (by omega)).2]; exact S2⟩
theorem pX_of (F : Fs (inV u) h h') : Fs (pX x u) h h' := F.mono (fun a j z => Or.inr z)
theorem pX_aX (F : Fs (pX x u) h h') (h1 : x + 27 ≤ u) (h2 : u + 11 ≤ x + 192) : Fs (aX x) h h' := F.mono (fun a j z => by unfold pX at z; unfold aX; omega)
theorem XSh.offX (S : XSh h x) (F : Fs (pX x u) h h') {i0 : Nat} (e : u = x + 27 + 11 * i0) (V : VS h' u) : XSh h' x := by
  obtain ⟨⟨S0, S1, S2, S3, S4, S5, S6, S7, S8, S9⟩, ⟨P0, P1⟩, Q⟩ := S
  have k : ∀ a j, ¬ pX x u a j → h'.2.1 a j = h.2.1 a j := F.2.2
  refine ⟨⟨by rw [F.1]; exact S0, ?_, ?_, ?_, ?_, ?_, ?_, ?_, ?_, ?_⟩, ⟨by rw [F.1]; exact P0, fun i hi => ?_⟩, fun i hi => ?_⟩
  · rw [k x 0 (by unfold pX; omega)]; exact S1
  · rw [k x 1 (by unfold pX; omega)]; exact S2
  · rw [k x 2 (by unfold pX; omega)]; exact S3
  · rw [k x 3 (by unfold pX; omega)]; exact S4
  · rw [k x 4 (by unfold pX; omega)]; exact S5
  · rw [k x 5 (by unfold pX; omega)]; exact S6
  · rw [k x 6 (by unfold pX; omega)]; exact S7
  · rw [k x 7 (by unfold pX; omega)]; exact S8
  · rw [k x 8 (by unfold pX; omega)]; exact S9
  · rw [k (x + 11) i (by unfold pX; omega)]; exact P1 i hi
  · by_cases z : i = i0
    · subst z; rw [← e]; exact V
    · exact (Q i hi).keep (fun a h1 h2 => ⟨by rw [F.1], funext fun j => k a j (by unfold pX; omega)⟩)
theorem XSh.nx (S : XSh h x) (F : Fs nF h h') : XSh h' x :=
  ⟨⟨by rw [F.1]; exact S.1.1, by rw [F.2.2 x 0 (fun z => z)]; exact S.1.2.1, by rw [F.2.2 x 1 (fun z => z)]; exact S.1.2.2.1, by rw [F.2.2 x 2 (fun z => z)]; exact S.1.2.2.2.1, by rw [F.2.2 x 3 (fun z => z)]; exact S.1.2.2.2.2.1, by rw [F.2.2 x 4 (fun z => z)]; exact S.1.2.2.2.2.2.1, by rw [F.2.2 x 5 (fun z => z)]; exact S.1.2.2.2.2.2.2.1, by rw [F.2.2 x 6 (fun z => z)]; exact S.1.2.2.2.2.2.2.2.1, by rw [F.2.2 x 7 (fun z => z)]; exact S.1.2.2.2.2.2.2.2.2.1, by rw [F.2.2 x 8 (fun z => z)]; exact S.1.2.2.2.2.2.2.2.2.2⟩, ⟨by rw [F.1]; exact S.2.1.1, fun i hi => by rw [F.2.2 (x + 11) i (fun z => z)]; exact S.2.1.2 i hi⟩, fun i hi => (S.2.2 i hi).keep (fun a _ _ => ⟨by rw [F.1], funext fun j => F.2.2 a j (fun z => z)⟩)⟩
theorem VlyAt.offX (V : VlyAt h v A la) (F : Fs (pX x u) h h') (hv : x < v) (d : u + 11 ≤ v ∨ v + 11 ≤ u) : VlyAt h' v A la := V.keepF F (fun a j h1 h2 z => by unfold pX at z; omega)
theorem LwAt.keep (L : LwAt G h x la T ln) (s : Sm la (la + 5) h h') (hn : h.2.2 ≤ h'.2.2) : LwAt G h' x la T ln :=
  ⟨L.1.keep s, L.2.1, Nat.le_trans L.2.2.1 hn, by rw [(s la (Nat.le_refl _) (by omega)).1]; exact L.2.2.2.1, by rw [(s la (Nat.le_refl _) (by omega)).2]; exact L.2.2.2.2⟩
theorem LwAt.offX (L : LwAt G h x la T ln) (F : Fs (pX x u) h h') (h1 : x + 27 ≤ u) (h2 : u + 11 ≤ x + 192) : LwAt G h' x la T ln :=
  L.keep (Sm.of F (fun a j q1 q2 z => by unfold pX at z; have := L.2.1; omega)) F.2.1
theorem ImC.offX (I : ImC G h x im) (F : Fs (pX x u) h h') (h9 : h'.2.1 x 9 = h.2.1 x 9) (h1 : x + 27 ≤ u) (h2 : u + 11 ≤ x + 192) (d : u + 11 ≤ x + 49 ∨ x + 60 ≤ u) : ImC G h' x im := by
  unfold ImC at *
  cases im with
  | none => simp only at *; rw [h9]; exact I
  | some q =>
    obtain ⟨I1, li, I2, I3⟩ := I
    exact ⟨by rw [h9]; exact I1, li, I2.offX F (by omega) (by omega), I3.offX F h1 h2⟩
theorem CVl.S (C : CVl G h x la A T ln im pa r) : XSh h x := C.1
theorem CVl.V (C : CVl G h x la A T ln im pa r) : VlyAt h (x + 27) A la := C.2.1
theorem CVl.L (C : CVl G h x la A T ln im pa r) : LwAt G h x la T ln := C.2.2.1
theorem CVl.I (C : CVl G h x la A T ln im pa r) : ImC G h x im := C.2.2.2.1
theorem CVl.dj (C : CVl G h x la A T ln im pa r) : Dj (x + 27) la := by
  have := C.L.2.1
  unfold Dj; omega
/-- now another valley -/
theorem CVl.now (C : CVl G h x la A T ln im pa r) (V : VlyAt h' (x + 27) A' la) (F : Fs (inV (x + 27)) h h') : CVl G h' x la A' T ln im pa r := by
  have F' : Fs (pX x (x + 27)) h h' := pX_of F
  obtain ⟨S, V0, L, I, np, n1, n2, n3, n4, n5⟩ := C
  have k : ∀ j, h'.2.1 x j = h.2.1 x j := fun j => F.2.2 x j (by unfold inV; omega)
  exact ⟨S.offX F' (i0 := 0) rfl V.vs, V, L.offX F' (by omega) (by omega), I.offX F' (k 9) (by omega) (by omega) (by omega), np, n1, n2, by rw [k]; exact n3, by rw [k]; exact n4, fun i hi => (n5 i hi).offX F' (by omega) (by omega)⟩
theorem CVl.spare (C : CVl G h x la A T ln im pa r) (V : VS h' (x + 38)) (F : Fs (inV (x + 38)) h h') : CVl G h' x la A T ln im pa r := by
  have F' : Fs (pX x (x + 38)) h h' := pX_of F
  obtain ⟨S, V0, L, I, np, n1, n2, n3, n4, n5⟩ := C
  have k : ∀ j, h'.2.1 x j = h.2.1 x j := fun j => F.2.2 x j (by unfold inV; omega)
  exact ⟨S.offX F' (i0 := 1) rfl V, V0.offX F' (by omega) (by omega), L.offX F' (by omega) (by omega), I.offX F' (k 9) (by omega) (by omega) (by omega), np, n1, n2, by rw [k]; exact n3, by rw [k]; exact n4, fun i hi => (n5 i hi).offX F' (by omega) (by omega)⟩
/-- nothing of it has changed -/
theorem CVl.keep (C : CVl G h x la A T ln im pa r) {P : Nat → Nat → Prop} (F : Fs P h h') (n1 : ∀ a j, x ≤ a → a < x + 192 → (a = x + 11 ∨ a = x ∨ x + 22 ≤ a) → ¬ P a j) (n2 : ∀ a j, x + 209 ≤ a → ¬ P a j) : CVl G h' x la A T ln im pa r := by
  obtain ⟨S, V0, L, I, np, m1, m2, m3, m4, m5⟩ := C
  have kx : ∀ j, h'.2.1 x j = h.2.1 x j := fun j => F.2.2 x j (n1 x j (by omega) (by omega) (by omega))
  have kV : ∀ {i : Nat} {B : Vs} {lb : Nat}, i < 15 → VlyAt h (x + 27 + 11 * i) B lb → VlyAt h' (x + 27 + 11 * i) B lb := fun hi V => V.keepF F (fun a j h1 h2 => n1 a j (by omega) (by omega) (by omega))
  have kL : ∀ {lb : Nat} {U : Tt} {q : Int32}, LwAt G h x lb U q → LwAt G h' x lb U q := fun L => L.keep (Sm.of F (fun a j h1 h2 => by
    rcases L.2.1 with e | e
    · exact n1 a j (by omega) (by omega) (by omega)
    · exact n2 a j (by omega))) F.2.1
  refine ⟨⟨⟨by rw [F.1]; exact S.1.1, ?_, ?_, ?_, ?_, ?_, ?_, ?_, ?_, ?_⟩, ⟨by rw [F.1]; exact S.2.1.1, fun i hi => ?_⟩, fun i hi => ?_⟩, kV (i := 0) (by omega) V0, kL L, ?_, np, m1, m2, by rw [kx]; exact m3, by rw [kx]; exact m4, fun i hi => ?_⟩
  · rw [kx]; exact S.1.2.1
  · rw [kx]; exact S.1.2.2.1
  · rw [kx]; exact S.1.2.2.2.1
  · rw [kx]; exact S.1.2.2.2.2.1
  · rw [kx]; exact S.1.2.2.2.2.2.1
  · rw [kx]; exact S.1.2.2.2.2.2.2.1
  · rw [kx]; exact S.1.2.2.2.2.2.2.2.1
  · rw [kx]; exact S.1.2.2.2.2.2.2.2.2.1
  · rw [kx]; exact S.1.2.2.2.2.2.2.2.2.2
  · rw [F.2.2 (x + 11) i (n1 _ i (by omega) (by omega) (by omega))]; exact S.2.1.2 i hi
  · exact (S.2.2 i hi).keep (fun a h1 h2 => ⟨by rw [F.1], funext fun j => F.2.2 a j (n1 a j (by omega) (by omega) (by omega))⟩)
  · unfold ImC at *
    cases im with
    | none => simp only at *; rw [kx]; exact I
    | some q =>
      obtain ⟨I1, li, I2, I3⟩ := I
      exact ⟨by rw [kx]; exact I1, li, kV (i := 2) (by omega) I2, kL I3⟩
  · have := m5 i hi
    rw [show x + 60 + 11 * ((np + 11 - i) % 12) = x + 27 + 11 * ((np + 11 - i) % 12 + 3) by omega] at this ⊢
    exact kV (by omega) this
theorem CVl.nx (C : CVl G h x la A T ln im pa r) (F : Fs nF h h') : CVl G h' x la A T ln im pa r := C.keep F (fun _ _ _ _ _ z => z) (fun _ _ _ z => z)
end ST
