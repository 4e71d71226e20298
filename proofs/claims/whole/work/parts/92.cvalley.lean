/-! ===== valley(): the class ===== -/
def valS (A : Vs) (b : Nat → Nat) (n : Nat) : Option Vs := match (valV A b n).2 with
  | none => none
  | some A1 => if A 0 6 < 12 then some (up A1 0 6 (A1 0 6 + 1)) else none
def valQ (A : Vs) (b : Nat → Nat) (n : Nat) : Int32 × Int32 := match (valV A b n).2 with
  | none => (1, 0)
  | some A1 => if A 0 6 < 12 then (0, A1 0 6 + 1) else (2, 0)
section CV
variable {G : Gx} {h h' h1 : Hp} {tk : Nat → Nat} {x v la : Nat} {A A' : Vs} {T : Tt} {ln : Int32} {im im' : Option Sv} {pa pa' : Nat → Vs} {r r' : Nat} {b : Nat → Nat} {n : Nat} {fl : Int32} {es : Int32 → String}
theorem CVl.f12 (C : CVl G h x la A T ln im pa r) (y : Int32) : CVl G (hset h x 12 (.int y)) x la A T ln im pa r := by
  have F : Fs (fun a j => a = x ∧ j = 12) h (hset h x 12 (.int y)) := Fs.rf.set ⟨rfl, rfl⟩
  obtain ⟨⟨⟨S0, S1, S2, S3, S4, S5, S6, S7, S8, S9⟩, ⟨P0, P1⟩, Q⟩, V0, L, I, np, m1, m2, m3, m4, m5⟩ := C
  have kx : ∀ j, j ≠ 12 → (hset h x 12 (.int y)).2.1 x j = h.2.1 x j := fun j hj => hs_ne (by omega)
  have kV : ∀ {v : Nat} {B : Vs} {lb : Nat}, x < v → VlyAt h v B lb → VlyAt (hset h x 12 (.int y)) v B lb := fun hi V => V.keepF F (fun a j h1 h2 z => by omega)
  have kL : ∀ {lb : Nat} {U : Tt} {q : Int32}, LwAt G h x lb U q → LwAt G (hset h x 12 (.int y)) x lb U q := fun L => L.keep (Sm.of F (fun a j h1 h2 z => by have := L.2.1; omega)) F.2.1
  refine ⟨⟨⟨S0, by rw [kx _ (by omega)]; exact S1, by rw [kx _ (by omega)]; exact S2, by rw [kx _ (by omega)]; exact S3, by rw [kx _ (by omega)]; exact S4, by rw [kx _ (by omega)]; exact S5, by rw [kx _ (by omega)]; exact S6, by rw [kx _ (by omega)]; exact S7, by rw [kx _ (by omega)]; exact S8, by rw [kx _ (by omega)]; exact S9⟩, ⟨P0, fun i hi => by rw [hs_ne (by omega)]; exact P1 i hi⟩, fun i hi => (Q i hi).keep (fun a h1 h2 => ⟨rfl, funext fun j => hs_ne (by omega)⟩)⟩, kV (by omega) V0, kL L, ?_, np, m1, m2, by rw [kx _ (by omega)]; exact m3, by rw [kx _ (by omega)]; exact m4, fun i hi => kV (by omega) (m5 i hi)⟩
  unfold ImC at *
  cases im with
  | none => simp only at *; rw [kx _ (by omega)]; exact I
  | some q =>
    obtain ⟨I1, li, I2, I3⟩ := I
    exact ⟨by rw [kx _ (by omega)]; exact I1, li, kV (by omega) I2, kL I3⟩
theorem CT.f12 (C : CT G h x la A T ln im pa r b n fl) (y : Int32) : CT G (hset h x 12 (.int y)) x la A T ln im pa r b n y := by
  have F : Fs (fun a j => a = x ∧ j = 12) h (hset h x 12 (.int y)) := Fs.rf.set ⟨rfl, rfl⟩
  obtain ⟨C0, ⟨u, Tp⟩, S, e⟩ := C
  exact ⟨C0.f12 y, ⟨u, Tp.keep F (fun a j z => by omega)⟩, S.keep (fun a _ _ => rfl) (fun a j z => F.2.2 a j (by unfold xR at z; omega)), hs_eq⟩
/-- the spare valley, and the reader's rows -/
theorem CT.spr (C : CT G h x la A T ln im pa r b n fl) (V : VS h' (x + 38)) (F : Fs (fun a j => rdX x a j ∨ inV (x + 38) a j) h h') : CT G h' x la A T ln im pa r b n fl := by
  have F1 : Fs (inV (x + 38)) h (h'.1, (fun a j => if x + 38 ≤ a ∧ a ≤ x + 38 + 10 then h'.2.1 a j else h.2.1 a j), h'.2.2) := ⟨F.1, F.2.1, fun a j z => if_neg z⟩
  have F2 : Fs (rdX x) (h'.1, (fun a j => if x + 38 ≤ a ∧ a ≤ x + 38 + 10 then h'.2.1 a j else h.2.1 a j), h'.2.2) h' := ⟨rfl, Nat.le_refl _, fun a j z => by
    show _ = (if _ then _ else _)
    by_cases c : x + 38 ≤ a ∧ a ≤ x + 38 + 10
    · rw [if_pos c]
    · rw [if_neg c]; exact F.2.2 a j (fun y => y.elim z c)⟩
  have V1 : VS (h'.1, (fun a j => if x + 38 ≤ a ∧ a ≤ x + 38 + 10 then h'.2.1 a j else h.2.1 a j), h'.2.2) (x + 38) := V.keep (fun a h1 h2 => ⟨rfl, funext fun j => by show (if _ then _ else _) = _; rw [if_pos ⟨h1, h2⟩]⟩)
  exact (C.act (C.1.spare V1 F1) (F1.mono (fun a j z => by unfold inV at z; unfold aX; omega))).small F2 (fun a j z => by unfold rdX at z; unfold xR; omega)
def cVal (G : Gx) (h : Hp) (x la : Nat) (A : Vs) (T : Tt) (ln : Int32) (im : Option Sv) (pa : Nat → Vs) (r : Nat) (b : Nat → Nat) (n : Nat) : Res → Hp → Prop := fun o h' => cans (es3 0 3 3) (xZ x) h (valQ A b n) o h' ∧ match valS A b n with
  | none => CT G h' x la A T ln im pa r b 0 (vR (valV A b n))
  | some A' => CT G h' x la A' T ln im pa 0 b 0 (vR (valV A b n))
theorem vR_b {R : Nat × Option Vs} (h : R.1 < 2 ^ 31) : vR R = -1 ↔ R.2.isSome = true := by
  unfold vR
  by_cases c : R.2.isSome = true
  · rw [if_pos c]; exact ⟨fun _ => c, fun _ => rfl⟩
  · rw [if_neg c]; exact ⟨fun z => absurd z (m1_ne h), fun z => absurd z c⟩
theorem c_valley (hl : G.1.stackTraces = false) (hx : G.n0 ≤ x) (O : Old G h tk) (C : CT G h x la A T ln im pa r b n fl) (W : Wf A) : EvM G m_Gr_valley [.ref x] h (cVal G h x la A T ln im pa r b n) := by
  refine en_Gr_valley h _ x (e_Gr_valley_0 hl h _ x ⟨_, C.S.r0, C.tk, _, c_useUp hl hx C, fun o1 h1 z => Or.inl ?_⟩)
  obtain ⟨z1, C1, T1, F1⟩ := z
  have O1 : Old G h1 tk := O.keepF F1 (fun a j z => by unfold xZ at z; omega)
  refine ⟨z1, _, C1.S.r6, _, C1.S.r5, C1.S.vs1.kd, _, v_copy hl (by omega) (by unfold Ds; omega) C1.V C1.S.vs1, fun o2 h2 z => Or.inl ?_⟩
  obtain ⟨z2, V2, F2⟩ := z
  have C2 := C1.act (C1.1.spare V2.vs F2) (F2.mono (fun a j z => by unfold inV at z; unfold aX; omega))
  have O2 := O1.keepF F2 (fun a j z => by unfold inV at z; omega)
  have T2 : TpC h2 x b 0 n := T1.keep F2 (fun a j z => by unfold inV; omega)
  have k9 : (h2.1 (x + 16)).1 = 9 := by rw [C2.2.2.1.2.2.2.2.1.1]
  refine ⟨z2, _, C2.S.r1, _, C2.S.r0, _, C2.S.r6, k9, _, r_read hl hx (by omega) O2 C2.2.2.1.2.2 T2 V2 W, fun o3 h3 z => Or.inl ?_⟩
  obtain ⟨z3, F3, S3, hb, A', V3, eA⟩ := z
  have C3 := C2.spr V3.vs F3
  have F03 : Fs (xZ x) h h3 := (F1.tr (F2.mono (fun a j z => by unfold inV at z; unfold xZ; omega))).tr (F3.mono (fun a j z => by unfold inV rdX at z; unfold xZ; omega))
  refine ⟨_, z3, ⟨hx, C3.S.kd⟩, ?_⟩
  have C4 := C3.f12 (vR (valV A b n))
  have F04 : Fs (xZ x) h (hset h3 x 12 (.int (vR (valV A b n)))) := F03.set (by unfold xZ; omega)
  have V4 : VlyAt (hset h3 x 12 (.int (vR (valV A b n)))) (x + 38) A' la := V3.keep (fun a h1 h2 => ⟨rfl, funext fun j => hs_ne (by omega)⟩)
  refine e_Gr_valley_37 hl _ _ x 0 0 ⟨_, ⟨C4.S.kd, hs_eq⟩, fun c => ?_, fun c => ?_⟩
  · have c' : ¬ (valV A b n).2.isSome = true := fun z => c ((vR_b hb).mpr z)
    have e : (valV A b n).2 = none := by
      cases z : (valV A b n).2 with
      | none => rfl
      | some a => rw [z] at c'; exact absurd rfl c'
    have eq : valQ A b n = (1, 0) := by unfold valQ; rw [e]
    have es : valS A b n = none := by unfold valS; rw [e]
    refine ⟨_, c_needNumber0 hl, by decide, fun o4 h4 z => Or.inr ?_⟩
    obtain ⟨E', e1, e2, e3⟩ := CQ_th (es := es3 0 3 3) (k := 1) (y := 0) C4 F04 z (by decide) rfl
    exact ⟨E', e1, by unfold cVal; rw [eq, es]; exact ⟨e2, e3⟩⟩
  · have c' := (vR_b hb).mp c
    obtain ⟨A1, e⟩ : ∃ A1, (valV A b n).2 = some A1 := Option.isSome_iff_exists.mp c'
    have : A1 = A' := eA _ e
    subst this
    refine ⟨_, c_needNumber1 hl, by decide, fun o4 h4 z => Or.inl ⟨z.1, ?_⟩⟩
    rw [z.2]
    refine ⟨_, C4.S.r5, _, C4.V.f16, fun d => ?_, fun d => ?_⟩
    · have eq : valQ A b n = (0, A1 0 6 + 1) := by unfold valQ; rw [e]; exact if_pos d
      have es : valS A b n = some (up A1 0 6 (A1 0 6 + 1)) := by unfold valS; rw [e]; exact if_pos d
      refine ⟨_, C4.S.r6, _, V4.f16, ⟨by omega, V4.kd⟩, ?_⟩
      have V5 : VlyAt (hset (hset h3 x 12 (.int (vR (valV A b n)))) (x + 38) 16 (.int (A1 0 6 + 1))) (x + 38) (up A1 0 6 (A1 0 6 + 1)) la := V4.set (k := 0) (j := 6) (Or.inl ⟨rfl, by decide⟩) (by omega) (A1 0 6 + 1)
      have F5 : Fs (inV (x + 38)) (hset h3 x 12 (.int (vR (valV A b n)))) (hset (hset h3 x 12 (.int (vR (valV A b n)))) (x + 38) 16 (.int (A1 0 6 + 1))) := Fs.rf.set ⟨by omega, by omega⟩
      have C5 := C4.act (C4.1.spare V5.vs F5) (F5.mono (fun a j z => by unfold inV at z; unfold aX; omega))
      have F05 := F04.tr (F5.mono (fun a j z => by unfold inV at z; unfold xZ; omega))
      refine e_Gr_valley_86 hl _ _ x _ _ ⟨_, C5.S.r5, _, C5.S.r6, C5.V.kd, _, v_copy hl (by omega) (by unfold Ds; omega) V5 C5.V.vs, fun o6 h6 y => Or.inl ?_⟩
      obtain ⟨y1, V6, F6⟩ := y
      have C6 := C5.act (C5.1.now V6 F6) (aX_now F6)
      have F06 := F05.tr (F6.mono (fun a j z => by unfold inV at z; unfold xZ; omega))
      refine ⟨y1, C6.S.kd, _, c_forget hl hx C6.1 pa, fun o7 h7 y => Or.inl ?_⟩
      obtain ⟨y1, C7, F7⟩ := y
      have C7' := C6.act C7 F7
      have f16 := C7'.V.f16
      rw [up_same] at f16
      refine ⟨y1, _, C7'.S.r5, _, f16, ?_⟩
      unfold cVal
      rw [eq, es]
      exact ⟨cans_ok (F06.tr (F7.mono (fun a j z => by unfold aX at z; unfold xZ; omega))), C7'⟩
    · have eq : valQ A b n = (2, 0) := by unfold valQ; rw [e]; exact if_neg d
      have es : valS A b n = none := by unfold valS; rw [e]; exact if_neg d
      rw [if_pos (by decide)]
      intro n9 hn
      unfold cVal
      rw [eq, es]
      exact ⟨⟨F04.nx hn, Or.inr ⟨by decide, rfl⟩⟩, C4.nx ⟨rfl, hn, fun _ _ _ => rfl⟩⟩
end CV
