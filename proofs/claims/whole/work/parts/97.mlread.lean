/-! ===== a law's text: the reference ===== -/
def CdA (h : Hp) (m : Nat) (cs : List (Nat × Nat)) : Prop := h.2.1 m 16 = .int (nI cs.length) ∧ cs.length ≤ 400 ∧ ∀ j k n, cs[j]? = some (k, n) → h.2.1 (m + 1) (1292 + 2 * j) = .int (nI k) ∧ h.2.1 (m + 1) (1292 + 2 * j + 1) = .int (nI n)
def MC (G : Gx) (h : Hp) (m : Nat) (tk : Nat → Nat) (A : Vs) (b : Nat → Nat) (u : Nat) (cs : List (Nat × Nat)) (dp : Int32) : Prop := ME G h m tk A b u ∧ CdA h m cs ∧ h.2.1 m 13 = .int dp
def mE (m : Nat) : Nat → Nat → Prop := fun a j => (a = m ∧ j = 16) ∨ (a = m + 1 ∧ 1292 ≤ j ∧ j < 2092)
def mD (m : Nat) : Nat → Nat → Prop := fun a j => mS m a j ∨ (a = m ∧ j = 13) ∨ mE m a j
def mP (G : Gx) (h : Hp) (m : Nat) (tk : Nat → Nat) (A : Vs) (b : Nat → Nat) (u : Nat) (cs : List (Nat × Nat)) (dp : Int32) (R : Nat × Option Lc) : Res → Hp → Prop := fun o h' => o = .inl (some (.int (if R.2.isSome = true then 1 else 0))) ∧ Fs (mD m) h h' ∧ ME G h' m tk A b u ∧ (R.2 = none → BgA h' m R.1) ∧ ∀ a, R.2 = some a → MC G h' m tk A b u (cs ++ a.2) dp ∧ RsA h' m b u R.1
theorem pn_word : ∀ o, o < 35 → pn o < 10 → 3 ≤ o ∧ o < 29 := by decide +kernel
theorem pn_cases : ∀ o, o < 35 → pn o < 7 → o = 3 ∨ o = 4 ∨ o = 26 ∨ o = 27 ∨ o = 28 ∨ o = 10 ∨ o = 17 := by decide +kernel
theorem pn_tags : ∀ o, o < 35 → 7 ≤ pn o ∧ pn o ≤ 9 → o = 24 ∨ o = 7 ∨ o = 25 := by decide +kernel
section MLR
variable {G : Gx} {h h' h0 : Hp} {tk : Nat → Nat} {m : Nat} {A : Vs} {b : Nat → Nat} {n u q q1 : Nat} {cs cs0 : List (Nat × Nat)} {dp : Int32} {f : Nat → Nat × Option Lc}
theorem mD_s (F : Fs (mS m) h h') : Fs (mD m) h h' := F.mono (fun _ _ z => Or.inl z)
theorem mD_e (F : Fs (mE m) h h') : Fs (mD m) h h' := F.mono (fun _ _ z => Or.inr (Or.inr z))
theorem CdA.keep (C : CdA h m cs) (e : ∀ a j, (a = m ∧ j = 16) ∨ (a = m + 1 ∧ 1292 ≤ j) → h'.2.1 a j = h.2.1 a j) : CdA h' m cs := ⟨by rw [e _ _ (Or.inl ⟨rfl, rfl⟩)]; exact C.1, C.2.1, fun j k n z => by rw [e _ _ (Or.inr ⟨rfl, by omega⟩), e _ _ (Or.inr ⟨rfl, by omega⟩)]; exact C.2.2 j k n z⟩
theorem MC.kS (E : MC G h m tk A b u cs dp) (hm : G.n0 ≤ m) (F : Fs (mS m) h h') : MC G h' m tk A b u cs dp := ⟨E.1.kS hm F, E.2.1.keep (fun a j z => F.2.2 a j (by unfold mS; omega)), by rw [F.2.2 _ _ (by unfold mS; omega)]; exact E.2.2⟩
theorem MC.kd (E : MC G h m tk A b u cs dp) : (h.1 m).1 = 11 := E.1.kd
theorem WldAt.dr (W : WldAt h m A) {i : Nat} (hi : 394 ≤ i) (y : Int32) : WldAt (hset h (m + 1) i (.int y)) m A := by
  obtain ⟨w, W1, R⟩ := W.wat
  refine WldAt.of W1.set (fun k j hd => ?_)
  have := ad_lt hd
  show A k j = (if ad k j = i then y else w (ad k j))
  rw [if_neg (by omega)]; exact R k j hd
theorem ME.dr (E : ME G h m tk A b u) (hm : G.n0 ≤ m) {i : Nat} (hi : 394 ≤ i) (y : Int32) : ME G (hset h (m + 1) i (.int y)) m tk A b u := by
  have F : Fs (fun a _ => a = m + 1) h (hset h (m + 1) i (.int y)) := Fs.rf.set rfl
  have od : ∀ a, a < G.n0 → (hset h (m + 1) i (.int y)).1 a = h.1 a ∧ (hset h (m + 1) i (.int y)).2.1 a = h.2.1 a := fun a ha => ⟨rfl, funext fun j => F.2.2 a j (by omega)⟩
  exact ⟨E.1.keep od, E.2.1.keep od, E.2.2.1.keep F (fun a j z q => by omega), E.W.dr hi y⟩
theorem ME.fd (E : ME G h m tk A b u) (hm : G.n0 ≤ m) {i : Nat} (hi : i = 13 ∨ i = 16) (y : Int32) : ME G (hset h m i (.int y)) m tk A b u := by
  have F : Fs (fun a j => a = m ∧ j = i) h (hset h m i (.int y)) := Fs.rf.set ⟨rfl, rfl⟩
  have od : ∀ a, a < G.n0 → (hset h m i (.int y)).1 a = h.1 a ∧ (hset h m i (.int y)).2.1 a = h.2.1 a := fun a ha => ⟨rfl, funext fun j => F.2.2 a j (by omega)⟩
  exact ⟨E.1.keep od, E.2.1.keep od, E.2.2.1.keep F (fun a j z q => by omega), E.W.keepF F (fun j hj z => by omega) (fun j _ z => by omega)⟩
theorem RsA.ke (R : RsA h m b u q) (e : h'.2.1 m 10 = h.2.1 m 10) : RsA h' m b u q := by
  obtain ⟨p, p1, p2, p3⟩ := R
  exact ⟨p, p1, p2, by rw [e]; exact p3⟩
theorem mP_no (E : ME G h' m tk A b u) (F : Fs (mD m) h h') (B : BgA h' m q) : mP G h m tk A b u cs dp (q, none) (.inl (some (.int 0))) h' := ⟨rfl, F, E, fun _ => B, fun _ z => nomatch z⟩
theorem mP_ok {a : Lc} (E : MC G h' m tk A b u cs dp) (F : Fs (mD m) h h') (R : RsA h' m b u q) (e : cs = cs0 ++ a.2) : mP G h m tk A b u cs0 dp (q, some a) (.inl (some (.int 1))) h' := ⟨rfl, F, E.1, fun z => (nomatch z), fun _ z => by cases z; exact ⟨e ▸ E, R⟩⟩
theorem mP_tr {R : Nat × Option Lc} {o : Res} {h1 : Hp} (F : Fs (mD m) h h1) (z : mP G h1 m tk A b u cs dp R o h') : mP G h m tk A b u cs dp R o h' := ⟨z.1, F.tr z.2.1, z.2.2⟩
theorem o_emits (hl : G.1.stackTraces = false) (hm : G.n0 ≤ m) (E : MC G h m tk A b u cs dp) (hc : cs.length < 400) (k n : Int32) : EvM G m_Mo_emits [.ref m, .int k, .int n] h (fun o h' => o = .inl none ∧ Fs (mE m) h h' ∧ ME G h' m tk A b u ∧ ∀ k' n', k = nI k' → n = nI n' → MC G h' m tk A b u (cs ++ [(k', n')]) dp) := by
  obtain ⟨E0, C, d⟩ := E
  have ix : (1292 : Int32) + 2 * nI cs.length = nI (1292 + 2 * cs.length) := by rw [show (1292 : Int32) = nI 1292 from rfl, show (2 : Int32) = nI 2 from rfl, pk_mul, nI_add]
  refine en_Mo_emits h _ _ _ _ (e_Mo_emits_0 hl h _ _ _ _ ⟨_, E0.W.r1, _, ⟨E0.kd, C.1⟩, by rw [ix]; exact E0.W.wr hm (by omega), ?_⟩)
  rw [ix, nI_clamp (by omega)]
  have E1 := E0.dr hm (i := 1292 + 2 * cs.length) (by omega) k
  refine e_Mo_emits_16 hl _ _ _ _ ⟨_, E1.W.r1, _, ⟨E1.kd, by rw [hs_ne (by omega)]; exact C.1⟩, by rw [ix, nI_1]; exact E1.W.wr hm (by omega), ?_⟩
  rw [ix, nI_1, nI_clamp (by omega)]
  have E2 := E1.dr hm (i := 1292 + 2 * cs.length + 1) (by omega) n
  refine e_Mo_emits_34 hl _ _ _ ⟨_, ⟨E2.kd, by rw [hs_ne (by omega), hs_ne (by omega)]; exact C.1⟩, ⟨hm, E2.kd⟩, rfl, ((Fs.rf.set (Or.inr ⟨rfl, by omega⟩)).set (Or.inr ⟨rfl, by omega⟩)).set (Or.inl ⟨rfl, rfl⟩), ?_⟩
  rw [nI_1]
  have E3 := E2.fd hm (i := 16) (Or.inr rfl) (nI (cs.length + 1))
  refine ⟨E3, fun k' n' ek en => ⟨E3, ⟨?_, ?_, fun j c e hj => ?_⟩, ?_⟩⟩
  · rw [hs_eq, List.length_append]; rfl
  · rw [List.length_append]; show cs.length + 1 ≤ 400; omega
  · rcases snoc_get hj with ⟨z, y⟩ | ⟨rfl, z⟩
    · rw [hs_ne (by omega), hs_ne (by omega), hs_ne (by omega), hs_ne (by omega), hs_ne (by omega), hs_ne (by omega)]; exact C.2.2 j c e y
    · cases z
      rw [hs_ne (by omega), hs_ne (by omega), hs_eq, hs_ne (by omega), hs_eq, ek, en]; exact ⟨rfl, rfl⟩
  · rw [hs_ne (by omega), hs_ne (by omega), hs_ne (by omega)]; exact d
/-! parts and sums -/
def wI (o : Nat) : Int32 := if pn o < 7 then nI (pn o) else -1
theorem o_wordOfPart (hl : G.1.stackTraces = false) (E : ME G h m tk A b u) (L : LtA h m b u q) : EvI G m_Mo_wordOfPart [.ref m] h (wI (tok b u q)) := by
  have is : ∀ {i o : Nat}, i < 26 → lio i = o → o < 29 → 3 ≤ o → EvI G m_Mo_isWord [.ref m, .ref (G.lit i)] h (if tok b u q = o then 1 else 0) := fun hi e h1 h2 => by
    have S := E.lit hi
    rw [e] at S
    exact o_isWord hl E.1 E.2.2.1 L S h1 h2
  refine en_Mo_wordOfPart h _ _ (e_Mo_wordOfPart_0 hl h _ _ ⟨E.kd, _, is (i := 0) (o := 3) (by decide) rfl (by decide) (by decide), fun c0 => ⟨E.kd, _, is (i := 1) (o := 4) (by decide) rfl (by decide) (by decide), fun c1 => ⟨E.kd, _, is (i := 21) (o := 26) (by decide) rfl (by decide) (by decide), fun c2 => ⟨E.kd, _, is (i := 22) (o := 27) (by decide) rfl (by decide) (by decide), fun c3 => ⟨E.kd, _, is (i := 23) (o := 28) (by decide) rfl (by decide) (by decide), fun c4 => ⟨E.kd, _, is (i := 7) (o := 10) (by decide) rfl (by decide) (by decide), fun c5 => ⟨E.kd, _, is (i := 14) (o := 17) (by decide) rfl (by decide) (by decide), fun c6 => ⟨?_, rfl⟩, fun c6 => ⟨?_, rfl⟩⟩, fun c5 => ⟨?_, rfl⟩⟩, fun c4 => ⟨?_, rfl⟩⟩, fun c3 => ⟨?_, rfl⟩⟩, fun c2 => ⟨?_, rfl⟩⟩, fun c1 => ⟨?_, rfl⟩⟩, fun c0 => ⟨?_, rfl⟩⟩)
  · unfold wI
    rw [if_neg (fun z => by
      have n0 := ite0 c0
      have n1 := ite0 c1
      have n2 := ite0 c2
      have n3 := ite0 c3
      have n4 := ite0 c4
      have n5 := ite0 c5
      have n6 := ite0 c6
      have := pn_cases _ tok_lt z
      omega)]
  · rw [ite1 c6]; rfl
  · rw [ite1 c5]; rfl
  · rw [ite1 c4]; rfl
  · rw [ite1 c3]; rfl
  · rw [ite1 c2]; rfl
  · rw [ite1 c1]; rfl
  · rw [ite1 c0]; rfl
theorem ol_part (hl : G.1.stackTraces = false) (hm : G.n0 ≤ m) (E : MC G h m tk A b u cs dp) (R : RsA h m b u q) (hc : cs.length < q) : EvM G m_Mo_readPart [.ref m] h (mP G h m tk A b u cs dp (prt b u q)) := by
  have u4 := E.1.2.2.1.u400
  have qu := R.le.1
  refine en_Mo_readPart h _ _ (e_Mo_readPart_0 hl h _ _ ⟨E.kd, _, o_letters hl hm E.1.2.2.1 R, fun o1 h1 z => Or.inl ⟨z.1, ?_⟩⟩)
  obtain ⟨-, L, F1⟩ := z
  have E1 := E.kS hm F1
  have rg := rn_ge (f := isLe) (b := b) (u := u) (i := q)
  have rl := rn_le (f := isLe) (b := b) qu
  refine ⟨_, ⟨E1.kd, L.2.2.1⟩, _, ⟨E1.kd, L.2.2.2⟩, fun c => ⟨fun _ => ⟨E1.kd, _, o_wordOfPart hl E1.1 L, fun _ => ⟨fun _ => ⟨E1.kd, _, o_emits hl hm E1 (by omega) _ _, fun o2 h2 y => Or.inl ⟨y.1, fun d => ?_, fun d => ?_⟩⟩, fun y => absurd rfl y⟩, fun y => absurd rfl y⟩, fun y => absurd rfl y⟩, fun c => ⟨fun y => absurd y one0, fun _ => ?_⟩⟩
  · obtain ⟨-, F2, E2, -⟩ := y
    have np : ¬ pn (tok b u q) < 7 := fun z => by
      unfold wI at d; rw [if_pos z] at d; exact absurd d (nI_pos (by omega))
    have nn : ¬ isN b u 0 999 q := fun z => by
      have dg := (tok_1.mp z.1).2
      refine c ?_
      rw [rn_n (f := isLe) (fun y => by have z1 := of_decide_eq_true y.2; have z2 := of_decide_eq_true dg; omega)]
    have ep : prt b u q = (q, none) := by unfold prt; rw [if_neg np, if_neg nn]
    rw [ep]
    exact mP_no E2 ((mD_s F1).tr (mD_e F2)) (by unfold BgA; rw [F2.2.2 _ _ (by unfold mE; omega)]; exact L.2.2.2)
  · obtain ⟨-, F2, -, E2⟩ := y
    have np : pn (tok b u q) < 7 := by
      by_cases z : pn (tok b u q) < 7
      · exact z
      · unfold wI at d; rw [if_neg z] at d; exact absurd lt_m1 d
    have ep : prt b u q = (nx b u q, some ([opI (tok b u q)], [(pn (tok b u q), 0)])) := by unfold prt; rw [if_pos np]
    have ow := pn_word _ (tok_lt (b := b) (u := u) (i := q)) (by omega)
    rw [ep]
    refine mP_ok (E2 (pn (tok b u q)) 0 (by unfold wI; rw [if_pos np]) rfl) ((mD_s F1).tr (mD_e F2)) ((L.rs ow.2 ow.1 rfl).ke (F2.2.2 _ _ (by unfold mE; omega))) rfl
  · have eq : rn isLe b u q = q := (nI_eq (by omega) (by omega)).mp c
    have R1 : RsA h1 m b u q := ⟨q, qu, L.2.1, by rw [L.2.2.1, eq]⟩
    have np : ¬ pn (tok b u q) < 7 := fun z => by
      have ow := pn_word _ (tok_lt (b := b) (u := u) (i := q)) (by omega)
      have := ((tok_word ow.2 ow.1).mp rfl).1
      have := (wt_let _ ow.2 ow.1).1
      omega
    rcases en_ : num b u 0 999 q with ⟨qa, _ | nn⟩
    · refine ⟨E1.kd, _, o_num hl hm E1.1.2.2.1 R1 (lo := 0) (hi := 999) (by omega) (by omega) en_, fun o2 h2 y => Or.inl ⟨_, y.1, fun y => absurd y one0, fun _ => ⟨fun y => absurd y one0, fun _ => ?_⟩⟩⟩
      obtain ⟨-, F2, B2⟩ := y
      have E2 := E1.kS hm F2
      have nq : ¬ isN b u 0 999 q ∧ qa = q := by
        rcases num_c en_ with ⟨-, -, z⟩ | ⟨z, y, -⟩
        · cases z
        · exact ⟨z, y⟩
      have ep : prt b u q = (q, none) := by unfold prt; rw [if_neg np, if_neg nq.1]
      rw [ep]
      refine ⟨E2.kd, _, o_emits hl hm E2 (by omega) _ _, fun o3 h3 y => Or.inl ⟨y.1, fun _ => ?_, fun d => absurd lt_m1 d⟩⟩
      obtain ⟨-, F3, E3, -⟩ := y
      have B2' : BgA h2 m qa := B2
      exact mP_no E3 ((mD_s (F1.tr F2)).tr (mD_e F3)) (by unfold BgA at *; rw [F3.2.2 _ _ (by unfold mE; omega), B2', nq.2])
    · refine ⟨E1.kd, _, o_num hl hm E1.1.2.2.1 R1 (lo := 0) (hi := 999) (by omega) (by omega) en_, fun o2 h2 y => Or.inl ⟨_, y.1, fun y => absurd y one0, fun _ => ⟨fun y => absurd y one0, fun _ => ?_⟩⟩⟩
      obtain ⟨-, F2, B2⟩ := y
      have E2 := E1.kS hm F2
      have nq : isN b u 0 999 q ∧ qa = nx b u q ∧ nn = vl b u q := by
        rcases num_c en_ with ⟨z, y, w⟩ | ⟨-, -, z⟩
        · cases w; exact ⟨z, y, rfl⟩
        · cases z
      have ep : prt b u q = (nx b u q, some ([nI (vl b u q)], [(10, vl b u q)])) := by unfold prt; rw [if_neg np, if_pos nq.1]
      have nb := (num_b en_).2
      rw [ep]
      refine ⟨E2.kd, _, o_emits hl hm E2 (by omega) _ _, fun o3 h3 y => Or.inl ⟨y.1, fun d => absurd d (nI_pos (by omega)), fun _ => ?_⟩⟩
      obtain ⟨-, F3, -, E3⟩ := y
      have B2' : RsA h2 m b u qa := B2
      rw [nq.2.1] at B2'
      exact mP_ok (E3 10 (vl b u q) rfl (by rw [← nq.2.2]; rfl)) ((mD_s (F1.tr F2)).tr (mD_e F3)) (B2'.ke (F3.2.2 _ _ (by unfold mE; omega))) rfl
theorem ol_parts (hl : G.1.stackTraces = false) (hm : G.n0 ≤ m) {R0 : Nat × Option Lc} : ∀ e {h : Hp} {q : Nat} {cs : List (Nat × Nat)} (a : Lc), MC G h m tk A b u cs dp → RsA h m b u q → cs.length < q → u < e + q → cs = cs0 ++ a.2 → Fs (mD m) h0 h → R0 = lst (prt b u) b u 32 [] [(11, 0)] e a q → Ev G m_Mo_readSum 9 [.ref m] [] h 0 0 (mP G h0 m tk A b u cs0 dp R0) := by
  intro e
  induction e with
  | zero => intro h q cs a E R hc he eo Fr eR; have := R.le.1; omega
  | succ e ih =>
    intro h q cs a E R hc he eo Fr eR
    have u4 := E.1.2.2.1.u400
    have qu := R.le.1
    have eR' : R0 = if tok b u q = 32 then bnd (prt b u (nx b u q)) fun q1 a1 => lst (prt b u) b u 32 [] [(11, 0)] e (a.1 ++ a1.1 ++ [], a.2 ++ a1.2 ++ [(11, 0)]) q1 else (q, some a) := eR
    refine e_Mo_readSum_9 hl h _ _ ⟨E.kd, _, o_sign hl hm E.1.2.2.1 R (o := 32) (c := 43) (by decide) (by decide) rfl, fun o1 h1 z => Or.inl ⟨_, z.1, fun c => ?_, fun c => ?_⟩⟩
    · obtain ⟨-, R1, B1, F1⟩ := z
      rw [if_neg (ite0 c)] at R1 eR'
      rw [eR']; exact mP_ok (E.kS hm F1) (Fr.tr (mD_s F1)) R1 eo
    · obtain ⟨-, R1, B1, F1⟩ := z
      have t := ite1 c
      rw [if_pos t] at R1 eR'
      have lt := tok_in t (by decide)
      have g := nx_gt (b := b) lt
      have l := nx_le (b := b) lt
      have E1 := E.kS hm F1
      refine ⟨E1.kd, _, ol_part hl hm E1 R1 (by omega), fun o2 h2 z => Or.inl ?_⟩
      obtain ⟨z1, F2, E2, z4, z5⟩ := z
      rcases ef : prt b u (nx b u q) with ⟨qa, _ | a1⟩
      · rw [ef] at z1 z4 eR'
        refine ⟨_, z1, fun c => absurd rfl c, fun _ => ?_⟩
        rw [eR']; exact mP_no E2 ((Fr.tr (mD_s F1)).tr F2) (z4 rfl)
      · rw [ef] at z1 z5 eR'
        obtain ⟨C2, R2⟩ := z5 _ rfl
        obtain ⟨p1, p2, p3, p4⟩ := prt_po _ _ _ l ef
        have ln2 : (cs ++ a1.2).length = cs.length + a1.2.length := List.length_append
        refine ⟨_, z1, fun _ => ⟨C2.kd, _, o_emits hl hm C2 (by omega) _ _, fun o3 h3 w => Or.inl ⟨w.1, ?_⟩⟩, fun c => absurd c one0⟩
        obtain ⟨-, F3, -, E3⟩ := w
        have E3 := E3 11 0 rfl rfl
        have ln3 : (cs ++ a1.2 ++ [(11, 0)]).length = cs.length + a1.2.length + 1 := by rw [List.length_append, ln2]; rfl
        exact ih (a.1 ++ a1.1 ++ [], a.2 ++ a1.2 ++ [(11, 0)]) E3 (RsA.ke R2 (F3.2.2 _ _ (by unfold mE; omega))) (by simp only; omega) (by simp only; omega) (by rw [eo]; simp only [List.append_assoc]) (((Fr.tr (mD_s F1)).tr F2).tr (mD_e F3)) eR'
theorem ol_sum (hl : G.1.stackTraces = false) (hm : G.n0 ≤ m) (E : MC G h m tk A b u cs dp) (R : RsA h m b u q) (hc : cs.length < q) : EvM G m_Mo_readSum [.ref m] h (mP G h m tk A b u cs dp (sumL b u q)) := by
  have qu := R.le.1
  refine en_Mo_readSum h _ _ (e_Mo_readSum_0 hl h _ _ ⟨E.kd, _, ol_part hl hm E R hc, fun o1 h1 z => Or.inl ?_⟩)
  obtain ⟨z1, F1, E1, z4, z5⟩ := z
  unfold sumL lead
  rcases ef : prt b u q with ⟨qa, _ | a1⟩
  · rw [ef] at z1 z4
    exact ⟨_, z1, fun c => absurd rfl c, fun _ => mP_no E1 F1 (z4 rfl)⟩
  · rw [ef] at z1 z5
    obtain ⟨C1, R1⟩ := z5 _ rfl
    obtain ⟨p1, p2, p3, p4⟩ := prt_po _ _ _ qu ef
    have ln1 : (cs ++ a1.2).length = cs.length + a1.2.length := List.length_append
    exact ⟨_, z1, fun _ => ol_parts hl hm (u + 1) a1 C1 R1 (by simp only; omega) (by omega) rfl F1 rfl, fun c => absurd c one0⟩
/-! tags -/
theorem ol_tag (hl : G.1.stackTraces = false) (hm : G.n0 ≤ m) (E : MC G h m tk A b u cs dp) (R : RsA h m b u q) (hc : cs.length < q) : EvM G m_Mo_readTag [.ref m] h (fun o h' => o = .inl (some (.int (if 7 ≤ pn (tok b u q) ∧ pn (tok b u q) ≤ 9 then 1 else 0))) ∧ Fs (mD m) h h' ∧ (7 ≤ pn (tok b u q) ∧ pn (tok b u q) ≤ 9 → MC G h' m tk A b u (cs ++ [(pn (tok b u q), 0)]) dp ∧ RsA h' m b u (nx b u q)) ∧ (¬ (7 ≤ pn (tok b u q) ∧ pn (tok b u q) ≤ 9) → MC G h' m tk A b u cs dp ∧ RsA h' m b u q)) := by
  have u4 := E.1.2.2.1.u400
  have qu := R.le.1
  refine en_Mo_readTag h _ _ (e_Mo_readTag_0 hl h _ _ ⟨E.kd, _, o_letters hl hm E.1.2.2.1 R, fun o1 h1 z => Or.inl ⟨z.1, ?_⟩⟩)
  obtain ⟨-, L, F1⟩ := z
  have E1 := E.kS hm F1
  have is : ∀ {i o : Nat}, i < 26 → lio i = o → o < 29 → 3 ≤ o → EvI G m_Mo_isWord [.ref m, .ref (G.lit i)] h1 (if tok b u q = o then 1 else 0) := fun hi e h1 h2 => by
    have S := E1.1.lit hi
    rw [e] at S
    exact o_isWord hl E1.1.1 E1.1.2.2.1 L S h1 h2
  have yes : ∀ {o k : Nat}, tok b u q = o → o < 29 → 3 ≤ o → pn o = k → 7 ≤ k ∧ k ≤ 9 → ∃ Q : Res → Hp → Prop, EvM G m_Mo_emits [.ref m, .int (nI k), .int 0] h1 Q ∧ ∀ o2 h2, Q o2 h2 → (o2 = .inl none ∧ Ev G m_Mo_readTag 69 [un, .int (nI k)] [] h2 0 0 (fun o h' => o = .inl (some (.int (if 7 ≤ pn (tok b u q) ∧ pn (tok b u q) ≤ 9 then 1 else 0))) ∧ Fs (mD m) h h' ∧ (7 ≤ pn (tok b u q) ∧ pn (tok b u q) ≤ 9 → MC G h' m tk A b u (cs ++ [(pn (tok b u q), 0)]) dp ∧ RsA h' m b u (nx b u q)) ∧ (¬ (7 ≤ pn (tok b u q) ∧ pn (tok b u q) ≤ 9) → MC G h' m tk A b u cs dp ∧ RsA h' m b u q))) := by
    intro o k t h1 h2 ek hk
    refine ⟨_, o_emits hl hm E1 (by omega) _ _, fun o2 h2 y => ⟨y.1, e_Mo_readTag_69 hl _ _ _ ⟨fun d => absurd d (nI_pos (by omega)), fun _ => ?_⟩⟩⟩
    obtain ⟨-, F2, -, E2⟩ := y
    have hp : pn (tok b u q) = k := by rw [t, ek]
    rw [hp, if_pos hk]
    exact ⟨rfl, (mD_s F1).tr (mD_e F2), fun _ => ⟨E2 k 0 rfl rfl, (L.rs h1 (by assumption) t).ke (F2.2.2 _ _ (by unfold mE; omega))⟩, fun z => absurd hk z⟩
  refine ⟨E1.kd, _, is (i := 19) (o := 24) (by decide) rfl (by decide) (by decide), fun c0 => ⟨E1.kd, _, is (i := 4) (o := 7) (by decide) rfl (by decide) (by decide), fun c1 => ⟨E1.kd, _, is (i := 20) (o := 25) (by decide) rfl (by decide) (by decide), fun c2 => ⟨fun _ => ⟨_, ⟨E1.kd, L.2.2.2⟩, ⟨hm, E1.kd⟩, ?_⟩, fun d => absurd lt_m1 d⟩, fun c2 => ⟨fun d => absurd d (by decide), fun _ => ?_⟩⟩, fun c1 => ⟨fun d => absurd d (by decide), fun _ => ?_⟩⟩, fun c0 => ⟨fun d => absurd d (by decide), fun _ => ?_⟩⟩
  · have no : ¬ (7 ≤ pn (tok b u q) ∧ pn (tok b u q) ≤ 9) := fun z => by
      have n0 := ite0 c0
      have n1 := ite0 c1
      have n2 := ite0 c2
      have := pn_tags _ tok_lt z
      omega
    have F2 : Fs (mS m) h1 (hset h1 m 10 (.int (nI q))) := Fs.rf.set ⟨rfl, Or.inl rfl⟩
    refine e_Mo_readTag_69 hl _ _ _ ⟨fun _ => ?_, fun d => absurd lt_m1 d⟩
    rw [if_neg no]
    exact ⟨rfl, mD_s (F1.tr F2), fun z => absurd z no, fun _ => ⟨E1.kS hm F2, q, qu, L.2.1, hs_eq⟩⟩
  · obtain ⟨Q, y1, y2⟩ := yes (ite1 c2) (by decide) (by decide) (k := 9) rfl (by decide)
    exact ⟨E1.kd, Q, y1, fun o2 h2 z => Or.inl (y2 o2 h2 z)⟩
  · obtain ⟨Q, y1, y2⟩ := yes (ite1 c1) (by decide) (by decide) (k := 8) rfl (by decide)
    exact ⟨E1.kd, Q, y1, fun o2 h2 z => Or.inl (y2 o2 h2 z)⟩
  · obtain ⟨Q, y1, y2⟩ := yes (ite1 c0) (by decide) (by decide) (k := 7) rfl (by decide)
    exact ⟨E1.kd, Q, y1, fun o2 h2 z => Or.inl (y2 o2 h2 z)⟩
/-! all of, any of -/
theorem ol_all9 (hl : G.1.stackTraces = false) (hm : G.n0 ≤ m) {k : Nat} (hf : PO u f) (ha : ∀ {h : Hp} {q : Nat} {cs : List (Nat × Nat)}, MC G h m tk A b u cs dp → RsA h m b u q → cs.length < q → EvM G (m_Mo_readAtom (k + 8)) [.ref m] h (mP G h m tk A b u cs dp (f q))) {R0 : Nat × Option Lc} : ∀ e {h : Hp} {q : Nat} {cs : List (Nat × Nat)} (a : Lc), MC G h m tk A b u cs dp → RsA h m b u q → cs.length < q → u < e + q → cs = cs0 ++ a.2 → Fs (mD m) h0 h → R0 = lst f b u 22 [-6] [(15, 0)] e a q → Ev G (m_Mo_readAllOf (k + 9)) 9 [.ref m] [] h 0 0 (mP G h0 m tk A b u cs0 dp R0) := by
  intro e
  induction e with
  | zero => intro h q cs a E R hc he eo Fr eR; have := R.le.1; omega
  | succ e ih =>
    intro h q cs a E R hc he eo Fr eR
    have u4 := E.1.2.2.1.u400
    have qu := R.le.1
    have eR' : R0 = if tok b u q = 22 then bnd (f (nx b u q)) fun q1 a1 => lst f b u 22 [-6] [(15, 0)] e (a.1 ++ a1.1 ++ [-6], a.2 ++ a1.2 ++ [(15, 0)]) q1 else (q, some a) := eR
    refine e_Mo_readAllOf_9 hl h _ _ ⟨E.kd, _, o_passes hl hm E.1.1 E.1.2.2.1 R (E.1.lit (i := 24) (by decide)) (o := 22) (by decide) (by decide), fun o1 h1 z => Or.inl ⟨_, z.1, fun c => ?_, fun c => ?_⟩⟩
    · obtain ⟨-, R1, B1, F1⟩ := z
      rw [if_neg (ite0 c)] at R1 eR'
      rw [eR']; exact mP_ok (E.kS hm F1) (Fr.tr (mD_s F1)) R1 eo
    · obtain ⟨-, R1, B1, F1⟩ := z
      have t := ite1 c
      rw [if_pos t] at R1 eR'
      have lt := tok_in t (by decide)
      have g := nx_gt (b := b) lt
      have l := nx_le (b := b) lt
      have E1 := E.kS hm F1
      refine ⟨E1.kd, _, ha E1 R1 (by omega), fun o2 h2 z => Or.inl ?_⟩
      obtain ⟨z1, F2, E2, z4, z5⟩ := z
      rcases ef : f (nx b u q) with ⟨qa, _ | a1⟩
      · rw [ef] at z1 z4 eR'
        refine ⟨_, z1, fun c => absurd rfl c, fun _ => ?_⟩
        rw [eR']; exact mP_no E2 ((Fr.tr (mD_s F1)).tr F2) (z4 rfl)
      · rw [ef] at z1 z5 eR'
        obtain ⟨C2, R2⟩ := z5 _ rfl
        obtain ⟨p1, p2, p3, p4⟩ := hf _ _ _ l ef
        have ln2 : (cs ++ a1.2).length = cs.length + a1.2.length := List.length_append
        refine ⟨_, z1, fun _ => ⟨C2.kd, _, o_emits hl hm C2 (by omega) _ _, fun o3 h3 w => Or.inl ⟨w.1, ?_⟩⟩, fun c => absurd c one0⟩
        obtain ⟨-, F3, -, E3⟩ := w
        have E3 := E3 15 0 rfl rfl
        have ln3 : (cs ++ a1.2 ++ [(15, 0)]).length = cs.length + a1.2.length + 1 := by rw [List.length_append, ln2]; rfl
        exact ih (a.1 ++ a1.1 ++ [-6], a.2 ++ a1.2 ++ [(15, 0)]) E3 (RsA.ke R2 (F3.2.2 _ _ (by unfold mE; omega))) (by simp only; omega) (by simp only; omega) (by rw [eo]; simp only [List.append_assoc]) (((Fr.tr (mD_s F1)).tr F2).tr (mD_e F3)) eR'
theorem ol_all (hl : G.1.stackTraces = false) (hm : G.n0 ≤ m) {k : Nat} (hf : PO u f) (ha : ∀ {h : Hp} {q : Nat} {cs : List (Nat × Nat)}, MC G h m tk A b u cs dp → RsA h m b u q → cs.length < q → EvM G (m_Mo_readAtom (k + 8)) [.ref m] h (mP G h m tk A b u cs dp (f q))) (E : MC G h m tk A b u cs dp) (R : RsA h m b u q) (hc : cs.length < q) : EvM G (m_Mo_readAllOf (k + 9)) [.ref m] h (mP G h m tk A b u cs dp (andL f b u q)) := by
  have qu := R.le.1
  refine en_Mo_readAllOf h _ _ (e_Mo_readAllOf_0 hl h _ _ ⟨E.kd, _, ha E R hc, fun o1 h1 z => Or.inl ?_⟩)
  obtain ⟨z1, F1, E1, z4, z5⟩ := z
  unfold andL lead
  rcases ef : f q with ⟨qa, _ | a1⟩
  · rw [ef] at z1 z4
    exact ⟨_, z1, fun c => absurd rfl c, fun _ => mP_no E1 F1 (z4 rfl)⟩
  · rw [ef] at z1 z5
    obtain ⟨C1, R1⟩ := z5 _ rfl
    obtain ⟨p1, p2, p3, p4⟩ := hf _ _ _ qu ef
    have ln1 : (cs ++ a1.2).length = cs.length + a1.2.length := List.length_append
    exact ⟨_, z1, fun _ => ol_all9 hl hm hf ha (u + 1) a1 C1 R1 (by simp only; omega) (by omega) rfl F1 rfl, fun c => absurd c one0⟩
theorem ol_any9 (hl : G.1.stackTraces = false) (hm : G.n0 ≤ m) {k : Nat} (hf : PO u f) (ha : ∀ {h : Hp} {q : Nat} {cs : List (Nat × Nat)}, MC G h m tk A b u cs dp → RsA h m b u q → cs.length < q → EvM G (m_Mo_readAllOf (k + 8)) [.ref m] h (mP G h m tk A b u cs dp (f q))) {R0 : Nat × Option Lc} : ∀ e {h : Hp} {q : Nat} {cs : List (Nat × Nat)} (a : Lc), MC G h m tk A b u cs dp → RsA h m b u q → cs.length < q → u < e + q → cs = cs0 ++ a.2 → Fs (mD m) h0 h → R0 = lst f b u 21 [-5] [(16, 0)] e a q → Ev G (m_Mo_readCond (k + 9)) 9 [.ref m] [] h 0 0 (mP G h0 m tk A b u cs0 dp R0) := by
  intro e
  induction e with
  | zero => intro h q cs a E R hc he eo Fr eR; have := R.le.1; omega
  | succ e ih =>
    intro h q cs a E R hc he eo Fr eR
    have u4 := E.1.2.2.1.u400
    have qu := R.le.1
    have eR' : R0 = if tok b u q = 21 then bnd (f (nx b u q)) fun q1 a1 => lst f b u 21 [-5] [(16, 0)] e (a.1 ++ a1.1 ++ [-5], a.2 ++ a1.2 ++ [(16, 0)]) q1 else (q, some a) := eR
    refine e_Mo_readCond_9 hl h _ _ ⟨E.kd, _, o_passes hl hm E.1.1 E.1.2.2.1 R (E.1.lit (i := 25) (by decide)) (o := 21) (by decide) (by decide), fun o1 h1 z => Or.inl ⟨_, z.1, fun c => ?_, fun c => ?_⟩⟩
    · obtain ⟨-, R1, B1, F1⟩ := z
      rw [if_neg (ite0 c)] at R1 eR'
      rw [eR']; exact mP_ok (E.kS hm F1) (Fr.tr (mD_s F1)) R1 eo
    · obtain ⟨-, R1, B1, F1⟩ := z
      have t := ite1 c
      rw [if_pos t] at R1 eR'
      have lt := tok_in t (by decide)
      have g := nx_gt (b := b) lt
      have l := nx_le (b := b) lt
      have E1 := E.kS hm F1
      refine ⟨E1.kd, _, ha E1 R1 (by omega), fun o2 h2 z => Or.inl ?_⟩
      obtain ⟨z1, F2, E2, z4, z5⟩ := z
      rcases ef : f (nx b u q) with ⟨qa, _ | a1⟩
      · rw [ef] at z1 z4 eR'
        refine ⟨_, z1, fun c => absurd rfl c, fun _ => ?_⟩
        rw [eR']; exact mP_no E2 ((Fr.tr (mD_s F1)).tr F2) (z4 rfl)
      · rw [ef] at z1 z5 eR'
        obtain ⟨C2, R2⟩ := z5 _ rfl
        obtain ⟨p1, p2, p3, p4⟩ := hf _ _ _ l ef
        have ln2 : (cs ++ a1.2).length = cs.length + a1.2.length := List.length_append
        refine ⟨_, z1, fun _ => ⟨C2.kd, _, o_emits hl hm C2 (by omega) _ _, fun o3 h3 w => Or.inl ⟨w.1, ?_⟩⟩, fun c => absurd c one0⟩
        obtain ⟨-, F3, -, E3⟩ := w
        have E3 := E3 16 0 rfl rfl
        have ln3 : (cs ++ a1.2 ++ [(16, 0)]).length = cs.length + a1.2.length + 1 := by rw [List.length_append, ln2]; rfl
        exact ih (a.1 ++ a1.1 ++ [-5], a.2 ++ a1.2 ++ [(16, 0)]) E3 (RsA.ke R2 (F3.2.2 _ _ (by unfold mE; omega))) (by simp only; omega) (by simp only; omega) (by rw [eo]; simp only [List.append_assoc]) (((Fr.tr (mD_s F1)).tr F2).tr (mD_e F3)) eR'
theorem ol_any (hl : G.1.stackTraces = false) (hm : G.n0 ≤ m) {k : Nat} (hf : PO u f) (ha : ∀ {h : Hp} {q : Nat} {cs : List (Nat × Nat)}, MC G h m tk A b u cs dp → RsA h m b u q → cs.length < q → EvM G (m_Mo_readAtom (k + 8)) [.ref m] h (mP G h m tk A b u cs dp (f q))) (E : MC G h m tk A b u cs dp) (R : RsA h m b u q) (hc : cs.length < q) : EvM G (m_Mo_readCond (k + 10)) [.ref m] h (mP G h m tk A b u cs dp (orL f b u q)) := by
  have qu := R.le.1
  have hg : ∀ {h : Hp} {q : Nat} {cs : List (Nat × Nat)}, MC G h m tk A b u cs dp → RsA h m b u q → cs.length < q → EvM G (m_Mo_readAllOf (k + 1 + 8)) [.ref m] h (mP G h m tk A b u cs dp (andL f b u q)) := fun E R hc => ol_all hl hm hf ha E R hc
  refine en_Mo_readCond (d := k + 1) h _ _ (e_Mo_readCond_0 (d := k + 1) hl h _ _ ⟨E.kd, _, hg E R hc, fun o1 h1 z => Or.inl ?_⟩)
  obtain ⟨z1, F1, E1, z4, z5⟩ := z
  unfold orL lead
  rcases ef : andL f b u q with ⟨qa, _ | a1⟩
  · rw [ef] at z1 z4
    exact ⟨_, z1, fun c => absurd rfl c, fun _ => mP_no E1 F1 (z4 rfl)⟩
  · rw [ef] at z1 z5
    obtain ⟨C1, R1⟩ := z5 _ rfl
    obtain ⟨p1, p2, p3, p4⟩ := andL_po hf _ _ _ qu ef
    have ln1 : (cs ++ a1.2).length = cs.length + a1.2.length := List.length_append
    exact ⟨_, z1, fun _ => ol_any9 hl hm (andL_po hf) hg (u + 1) a1 C1 R1 (by simp only; omega) (by omega) rfl F1 rfl, fun c => absurd c one0⟩
end MLR
