/-! ===== a law's text: the reference's atoms and lines ===== -/
section MLA
variable {G : Gx} {h h' h0 : Hp} {tk : Nat → Nat} {m : Nat} {A : Vs} {b : Nat → Nat} {n u q q1 : Nat} {cs cs0 : List (Nat × Nat)} {dp : Int32} {D : List Ln}
theorem MC.dpt (E : MC G h m tk A b u cs dp) (hm : G.n0 ≤ m) (y : Int32) : MC G (hset h m 13 (.int y)) m tk A b u cs y := ⟨E.1.fd hm (Or.inl rfl) y, E.2.1.keep (fun a j z => hs_ne (by omega)), hs_eq⟩
theorem mD_13 {y : Int32} (F : Fs (mD m) h0 h) : Fs (mD m) h0 (hset h m 13 (.int y)) := F.set (Or.inr (Or.inl ⟨rfl, rfl⟩))
/-- behind a sign of a comparison -/
theorem ol_right (hl : G.1.stackTraces = false) (hm : G.n0 ≤ m) {a : Lc} {qa : Nat} {k : Nat} (E : MC G h m tk A b u cs dp) (R : RsA h m b u (nx b u qa)) (lt : qa < u) (hc : cs.length < qa + 1) (ek : tok b u qa - 21 = k) (eo : cs = cs0 ++ a.2) (Fr : Fs (mD m) h0 h) {R0 : Nat × Option Lc} (eR : R0 = bnd (sumL b u (nx b u qa)) fun q2 a2 => (q2, some (a.1 ++ [-10] ++ a2.1 ++ [opI (tok b u qa)], a.2 ++ a2.2 ++ [(tok b u qa - 21, 0)]))) :
    ∃ Q : Res → Hp → Prop, EvM G m_Mo_readSum [.ref m] h Q ∧ ∀ (o : Res) (h1 : Hp), Q o h1 → ∃ x1, o = .inl (some (.int x1)) ∧ (¬ x1 = 0 → (h1.1 m).1 = 11 ∧ ∃ Q2 : Res → Hp → Prop, EvM G m_Mo_emits [.ref m, .int (nI k), .int 0] h1 Q2 ∧ ∀ (o2 : Res) (h2 : Hp), Q2 o2 h2 → (o2 = .inl none ∧ mP G h0 m tk A b u cs0 dp R0 (.inl (some (.int 1))) h2) ∨ (∃ Ex, o2 = .inr Ex ∧ mP G h0 m tk A b u cs0 dp R0 (.inr Ex) h2)) ∧ (x1 = 0 → mP G h0 m tk A b u cs0 dp R0 (.inl (some (.int 0))) h1) := by
  have u4 := E.1.2.2.1.u400
  have g := nx_gt (b := b) lt
  have l := nx_le (b := b) lt
  refine ⟨_, ol_sum hl hm E R (by omega), fun o h1 z => ?_⟩
  obtain ⟨z1, F1, E1, z4, z5⟩ := z
  rcases es : sumL b u (nx b u qa) with ⟨qb, _ | a2⟩
  · rw [es] at z1 z4 eR
    refine ⟨_, z1, fun c => absurd rfl c, fun _ => ?_⟩
    rw [show R0 = (qb, none) from eR]
    exact mP_no E1 (Fr.tr F1) (z4 rfl)
  · rw [es] at z1 z5 eR
    obtain ⟨C1, R1⟩ := z5 _ rfl
    obtain ⟨p1, p2, p3, p4⟩ := sumL_po _ _ _ l es
    have ln1 : (cs ++ a2.2).length = cs.length + a2.2.length := List.length_append
    refine ⟨_, z1, fun _ => ⟨C1.kd, _, o_emits hl hm C1 (by omega) _ _, fun o2 h2 w => Or.inl ⟨w.1, ?_⟩⟩, fun c => absurd c one0⟩
    obtain ⟨-, F2, -, E2⟩ := w
    rw [show R0 = (qb, some (a.1 ++ [-10] ++ a2.1 ++ [opI (tok b u qa)], a.2 ++ a2.2 ++ [(tok b u qa - 21, 0)])) from eR, ek]
    exact mP_ok (E2 k 0 rfl rfl) ((Fr.tr F1).tr (mD_e F2)) (RsA.ke R1 (F2.2.2 _ _ (by unfold mE; omega))) (by rw [eo]; simp only [List.append_assoc])
theorem ol_atomS (hl : G.1.stackTraces = false) (hm : G.n0 ≤ m) {d k : Nat} (hd : d ≤ 6)
    (hA : ∀ d', d = d' + 1 → ∀ {h : Hp} {q : Nat} {cs : List (Nat × Nat)}, MC G h m tk A b u cs (nI (6 - d')) → RsA h m b u q → cs.length < q → EvM G (m_Mo_readAtom (k + 8)) [.ref m] h (mP G h m tk A b u cs (nI (6 - d')) (atmL b u d' q)))
    (hO : ∀ d', d = d' + 1 → ∀ {h : Hp} {q : Nat} {cs : List (Nat × Nat)}, MC G h m tk A b u cs (nI (6 - d')) → RsA h m b u q → cs.length < q → EvM G (m_Mo_readCond (k + 8)) [.ref m] h (mP G h m tk A b u cs (nI (6 - d')) (orL (atmL b u d') b u q)))
    (E : MC G h m tk A b u cs (nI (6 - d))) (R : RsA h m b u q) (hc : cs.length < q) : EvM G (m_Mo_readAtom (k + 9)) [.ref m] h (mP G h m tk A b u cs (nI (6 - d)) (atmL b u d q)) := by
  have u4 := E.1.2.2.1.u400
  have qu := R.le.1
  have d6 : ∀ {hh : Hp} {cc : List (Nat × Nat)} {dd : Int32}, MC G hh m tk A b u cc dd → fI hh 11 m 13 dd := fun E => ⟨E.kd, E.2.2⟩
  have n6 : ¬ nI (6 - d) = 6 → ∃ d', d = d' + 1 := fun c => ⟨d - 1, by
    rcases Nat.lt_or_ge 0 d with z | z
    · omega
    · exact absurd (by rw [show d = 0 by omega]; rfl) c⟩
  have y6 : nI (6 - d) = 6 → d = 0 := fun c => by
    have := (nI_eq (b := 6) (by omega) (by decide)).mp c
    omega
  refine en_Mo_readAtom h _ _ (e_Mo_readAtom_0 hl h _ _ ⟨E.kd, _, o_sign hl hm E.1.2.2.1 R (o := 30) (c := 40) (by decide) (by decide) rfl, fun o1 h1 z => Or.inl ⟨_, z.1, fun c1 => ?_, fun c1 => ?_⟩⟩)
  · obtain ⟨-, R1, B1, F1⟩ := z
    have t1 := ite0 c1
    rw [if_neg t1] at R1
    have E1 := E.kS hm F1
    refine ⟨E1.kd, _, o_passes hl hm E1.1.1 E1.1.2.2.1 R1 (E1.1.lit (i := 18) (by decide)) (o := 23) (by decide) (by decide), fun o2 h2 z => Or.inl ⟨_, z.1, fun c2 => ?_, fun c2 => ?_⟩⟩
    · obtain ⟨-, R2, B2, F2⟩ := z
      have t2 := ite0 c2
      rw [if_neg t2] at R2
      have E2 := E1.kS hm F2
      rw [atm_bsc t1 t2]
      unfold bscL
      refine ⟨E2.kd, _, ol_tag hl hm E2 R2 hc, fun o3 h3 z => Or.inl ⟨_, z.1, fun c3 => ?_, fun c3 => ?_⟩⟩
      · obtain ⟨-, F3, -, z4⟩ := z
        obtain ⟨E3, R3⟩ := z4 (ite0 c3)
        rw [if_neg (ite0 c3)]
        have F03 := (mD_s (F1.tr F2)).tr F3
        refine ⟨E3.kd, _, ol_sum hl hm E3 R3 hc, fun o4 h4 z => Or.inl ?_⟩
        obtain ⟨z1, F4, E4, z4, z5⟩ := z
        rcases es : sumL b u q with ⟨qa, _ | a⟩
        · rw [es] at z1 z4
          exact ⟨_, z1, fun c => absurd rfl c, fun _ => mP_no E4 (F03.tr F4) (z4 rfl)⟩
        · rw [es] at z1 z5
          obtain ⟨C4, R4⟩ := z5 _ rfl
          have R4' : RsA h4 m b u qa := R4
          obtain ⟨p1, p2, p3, p4⟩ := sumL_po _ _ _ qu es
          have ln4 : (cs ++ a.2).length = cs.length + a.2.length := List.length_append
          have F04 := F03.tr F4
          refine ⟨_, z1, fun _ => ?_, fun c => absurd c one0⟩
          show (h4.1 m).1 = 11 ∧ _
          rw [show (bnd ((qa, some a) : Nat × Option Lc) fun q1 a => if tok b u q1 = 33 ∨ tok b u q1 = 34 then bnd (sumL b u (nx b u q1)) fun q2 a2 => (q2, some (a.1 ++ [-10] ++ a2.1 ++ [opI (tok b u q1)], a.2 ++ a2.2 ++ [(tok b u q1 - 21, 0)])) else (q1, none)) = (if tok b u qa = 33 ∨ tok b u qa = 34 then bnd (sumL b u (nx b u qa)) fun q2 a2 => (q2, some (a.1 ++ [-10] ++ a2.1 ++ [opI (tok b u qa)], a.2 ++ a2.2 ++ [(tok b u qa - 21, 0)])) else (qa, none)) from rfl]
          refine ⟨C4.kd, _, o_sign hl hm C4.1.2.2.1 R4' (o := 33) (c := 60) (by decide) (by decide) rfl, fun o5 h5 z => Or.inl ⟨_, z.1, fun s => ?_, fun s => ?_⟩⟩
          · obtain ⟨-, R5, B5, F5⟩ := z
            have t := ite1 s
            rw [if_pos t] at R5
            have E5 := C4.kS hm F5
            have lt := tok_in t (by decide)
            rw [if_pos (Or.inl t)]
            obtain ⟨Q, y1, y2⟩ := ol_right hl hm (a := a) (k := 12) E5 R5 lt (by omega) (by rw [t]) rfl (F04.tr (mD_s F5)) rfl
            refine ⟨E5.kd, Q, y1, fun o6 h6 z => Or.inl ?_⟩
            obtain ⟨x1, w1, w2, w3⟩ := y2 o6 h6 z
            exact ⟨x1, w1, fun c => ⟨fun v => absurd v s, fun _ => w2 c⟩, w3⟩
          · obtain ⟨-, R5, B5, F5⟩ := z
            have t := ite0 s
            rw [if_neg t] at R5
            have E5 := C4.kS hm F5
            refine ⟨E5.kd, _, o_sign hl hm E5.1.2.2.1 R5 (o := 34) (c := 62) (by decide) (by decide) rfl, fun o6 h6 z => Or.inl ⟨_, z.1, fun v => ?_, fun v => ?_⟩⟩
            · obtain ⟨-, R6, B6, F6⟩ := z
              rw [if_neg (fun z => z.elim t (ite0 v))]
              exact mP_no (E5.kS hm F6).1 (F04.tr (mD_s (F5.tr F6))) B6
            · obtain ⟨-, R6, B6, F6⟩ := z
              have t2 := ite1 v
              rw [if_pos t2] at R6
              have E6 := E5.kS hm F6
              have lt := tok_in t2 (by decide)
              rw [if_pos (Or.inr t2)]
              obtain ⟨Q, y1, y2⟩ := ol_right hl hm (a := a) (k := 13) E6 R6 lt (by omega) (by rw [t2]) rfl (F04.tr (mD_s (F5.tr F6))) rfl
              refine ⟨E6.kd, Q, y1, fun o7 h7 z => Or.inl ?_⟩
              obtain ⟨x1, w1, w2, w3⟩ := y2 o7 h7 z
              exact ⟨x1, w1, fun c => ⟨fun _ => w2 c, fun v => absurd s v⟩, w3⟩
      · obtain ⟨-, F3, z4, -⟩ := z
        have c3' := ite1 c3
        obtain ⟨E3, R3⟩ := z4 c3'
        rw [if_pos c3']
        exact mP_ok E3 ((mD_s (F1.tr F2)).tr F3) R3 rfl
    · obtain ⟨-, R2, B2, F2⟩ := z
      have t := ite1 c2
      rw [if_pos t] at R2
      have E2 := E1.kS hm F2
      have lt := tok_in t (by decide)
      have g := nx_gt (b := b) lt
      have l := nx_le (b := b) lt
      have F02 := mD_s (F1.tr F2)
      refine ⟨_, d6 E2, fun c => ?_, fun c => ?_⟩
      · obtain ⟨d', rfl⟩ := n6 c
        refine ⟨_, d6 E2, ⟨hm, E2.kd⟩, ?_⟩
        rw [nI_1, show 6 - (d' + 1) + 1 = 6 - d' by omega, atm_not t]
        have E3 := E2.dpt hm (nI (6 - d'))
        have R3 : RsA (hset h2 m 13 (.int (nI (6 - d')))) m b u (nx b u q) := R2.ke (hs_ne (by omega))
        refine e_Mo_readAtom_86 hl _ _ _ ⟨E3.kd, _, hA d' rfl E3 R3 (by omega), fun o4 h4 z => Or.inl ?_⟩
        obtain ⟨z1, F4, E4, z4, z5⟩ := z
        rcases es : atmL b u d' (nx b u q) with ⟨qb, _ | a2⟩
        · rw [es] at z1 z4
          exact ⟨_, z1, fun c => absurd rfl c, fun _ => mP_no E4 ((mD_13 F02).tr F4) (z4 rfl)⟩
        · rw [es] at z1 z5
          obtain ⟨C4, R4⟩ := z5 _ rfl
          obtain ⟨p1, p2, p3, p4⟩ := atmL_po d' _ _ _ l es
          have ln4 : (cs ++ a2.2).length = cs.length + a2.2.length := List.length_append
          refine ⟨_, z1, fun _ => ⟨_, d6 C4, ⟨hm, C4.kd⟩, ?_⟩, fun c => absurd c one0⟩
          have ed : nI (6 - d') - 1 = nI (6 - (d' + 1)) := pk_sub (b := 1) (by omega)
          rw [ed]
          have C5 := C4.dpt hm (nI (6 - (d' + 1)))
          refine e_Mo_readAtom_105 hl _ _ _ ⟨C5.kd, _, o_emits hl hm C5 (by omega) _ _, fun o6 h6 w => Or.inl ⟨w.1, ?_⟩⟩
          obtain ⟨-, F6, -, E6⟩ := w
          refine mP_ok (a := (a2.1 ++ [-7], a2.2 ++ [(14, 0)])) (E6 14 0 rfl rfl) ((mD_13 ((mD_13 F02).tr F4)).tr (mD_e F6)) (RsA.ke (RsA.ke R4 (hs_ne (by omega))) (F6.2.2 _ _ (by unfold mE; omega))) (by simp only [List.append_assoc])
      · have := y6 c
        subst this
        rw [atm_0 (Or.inr t)]
        exact mP_no E2.1 F02 B2
  · obtain ⟨-, R1, B1, F1⟩ := z
    have t := ite1 c1
    rw [if_pos t] at R1
    have E1 := E.kS hm F1
    have lt := tok_in t (by decide)
    have g := nx_gt (b := b) lt
    have l := nx_le (b := b) lt
    have F01 := mD_s F1
    refine ⟨_, d6 E1, fun c => ?_, fun c => ?_⟩
    · obtain ⟨d', rfl⟩ := n6 c
      refine ⟨_, d6 E1, ⟨hm, E1.kd⟩, ?_⟩
      rw [nI_1, show 6 - (d' + 1) + 1 = 6 - d' by omega, atm_op t]
      have E3 := E1.dpt hm (nI (6 - d'))
      have R3 : RsA (hset h1 m 13 (.int (nI (6 - d')))) m b u (nx b u q) := R1.ke (hs_ne (by omega))
      refine e_Mo_readAtom_30 hl _ _ _ ⟨E3.kd, _, hO d' rfl E3 R3 (by omega), fun o4 h4 z => Or.inl ?_⟩
      obtain ⟨z1, F4, E4, z4, z5⟩ := z
      rcases es : orL (atmL b u d') b u (nx b u q) with ⟨qb, _ | a2⟩
      · rw [es] at z1 z4
        exact ⟨_, z1, fun c => absurd rfl c, fun _ => mP_no E4 ((mD_13 F01).tr F4) (z4 rfl)⟩
      · rw [es] at z1 z5
        obtain ⟨C4, R4⟩ := z5 _ rfl
        have R4' : RsA h4 m b u qb := R4
        refine ⟨_, z1, fun _ => ⟨_, d6 C4, ⟨hm, C4.kd⟩, ?_⟩, fun c => absurd c one0⟩
        have ed : nI (6 - d') - 1 = nI (6 - (d' + 1)) := pk_sub (b := 1) (by omega)
        rw [ed]
        have C5 := C4.dpt hm (nI (6 - (d' + 1)))
        have R5 : RsA (hset h4 m 13 (.int (nI (6 - (d' + 1))))) m b u qb := R4'.ke (hs_ne (by omega))
        refine e_Mo_readAtom_49 hl _ _ _ ⟨C5.kd, _, o_sign hl hm C5.1.2.2.1 R5 (o := 31) (c := 41) (by decide) (by decide) rfl, fun o6 h6 w => Or.inl ⟨_, w.1, ?_⟩⟩
        obtain ⟨-, R6, B6, F6⟩ := w
        have C6 := C5.kS hm F6
        have F06 := (mD_13 (y := nI (6 - (d' + 1))) ((mD_13 F01).tr F4)).tr (mD_s F6)
        show bret _ (mP G h m tk A b u cs (nI (6 - (d' + 1))) (if tok b u qb = 31 then (nx b u qb, some a2) else (qb, none)) _ _)
        by_cases s : tok b u qb = 31
        · rw [if_pos s] at R6
          rw [if_pos s, if_pos s]
          exact bret_of (Or.inr rfl) (mP_ok C6 F06 R6 rfl)
        · rw [if_neg s, if_neg s]
          exact bret_of (Or.inl rfl) (mP_no C6.1 F06 B6)
    · have := y6 c
      subst this
      rw [atm_0 (Or.inl t)]
      exact mP_no E1.1 F01 B1
theorem ol_atom (hl : G.1.stackTraces = false) (hm : G.n0 ≤ m) : ∀ d, d ≤ 6 → ∀ k, 3 * d ≤ k → ∀ {h : Hp} {q : Nat} {cs : List (Nat × Nat)}, MC G h m tk A b u cs (nI (6 - d)) → RsA h m b u q → cs.length < q → EvM G (m_Mo_readAtom (k + 9)) [.ref m] h (mP G h m tk A b u cs (nI (6 - d)) (atmL b u d q)) := by
  intro d
  induction d with
  | zero => intro hd k hk h q cs E R hc; exact ol_atomS hl hm hd (fun d' z => by omega) (fun d' z => by omega) E R hc
  | succ d ih =>
    intro hd k hk h q cs E R hc
    obtain ⟨k', rfl⟩ : ∃ k', k = k' + 3 := ⟨k - 3, by omega⟩
    refine ol_atomS hl hm hd (fun d' z => ?_) (fun d' z => ?_) E R hc
    · obtain rfl : d = d' := by omega
      intro h q cs E R hc
      exact ih (by omega) (k' + 2) (by omega) E R hc
    · obtain rfl : d = d' := by omega
      intro h q cs E R hc
      exact ol_any (k := k' + 1) hl hm (atmL_po d) (fun E R hc => ih (by omega) k' (by omega) E R hc) E R hc
theorem ol_cond (hl : G.1.stackTraces = false) (hm : G.n0 ≤ m) (E : MC G h m tk A b u cs 0) (R : RsA h m b u q) (hc : cs.length < q) : EvM G (m_Mo_readCond 40) [.ref m] h (mP G h m tk A b u cs 0 (orL (atmL b u 6) b u q)) :=
  ol_any (k := 30) (dp := nI (6 - 6)) hl hm (atmL_po 6) (fun E R hc => ol_atom hl hm 6 (by decide) 29 (by decide) E R hc) E R hc
/-! lines -/
def mG (m i : Nat) : Nat → Nat → Prop := fun a j => mD m a j ∨ (a = m + 1 ∧ 1244 + 4 * i ≤ j ∧ j < 1244 + 4 * i + 4)
def mlP (G : Gx) (h : Hp) (m : Nat) (tk : Nat → Nat) (A : Vs) (b : Nat → Nat) (u : Nat) (cs : List (Nat × Nat)) (i : Nat) (R : Nat × Option Ln) : Res → Hp → Prop := fun o h' => o = .inl (some (.int (if R.2.isSome = true then 1 else 0))) ∧ Fs (mG m i) h h' ∧ ME G h' m tk A b u ∧ (R.2 = none → BgA h' m R.1) ∧ ∀ l, R.2 = some l → CdA h' m (cs ++ l.2.2.2) ∧ RsA h' m b u R.1 ∧ (∃ y, h'.2.1 m 13 = .int y) ∧ h'.2.1 (m + 1) (1244 + 4 * i) = .int (nI l.1) ∧ h'.2.1 (m + 1) (1244 + 4 * i + 1) = .int (nI l.2.1) ∧ h'.2.1 (m + 1) (1244 + 4 * i + 2) = .int (nI cs.length) ∧ h'.2.1 (m + 1) (1244 + 4 * i + 3) = .int (nI (cs ++ l.2.2.2).length)
theorem mG_d {i : Nat} (F : Fs (mD m) h h') : Fs (mG m i) h h' := F.mono (fun _ _ z => Or.inl z)
theorem kI_pos (o : Nat) : 0 ≤ kI o ↔ kn o < 3 := by
  unfold kI
  by_cases c : kn o < 3
  · rw [if_pos c]; exact ⟨fun _ => c, fun _ => nI_pos' (by omega)⟩
  · rw [if_neg c]; exact ⟨fun z => absurd z not_m1, fun z => absurd z c⟩
theorem CdA.row (C : CdA h m cs) {i : Nat} (hi : i < 1292) (y : Int32) : CdA (hset h (m + 1) i (.int y)) m cs := C.keep (fun a j z => hs_ne (by omega))
theorem ol_line (hl : G.1.stackTraces = false) (hm : G.n0 ≤ m) (E : ME G h m tk A b u) (C : CdA h m cs) (L : LtA h m b u q) (hc : cs.length ≤ q) {i : Nat} (hi : i < 12) : EvM G m_Mo_readLawLine [.ref m, .int (nI i)] h (mlP G h m tk A b u cs i (lnL b u q)) := by
  have u4 := E.2.2.1.u400
  have qu := L.1
  have is : ∀ {i o : Nat}, i < 26 → lio i = o → o < 29 → 3 ≤ o → EvI G m_Mo_isWord [.ref m, .ref (G.lit i)] h (if tok b u q = o then 1 else 0) := fun hi e h1 h2 => by
    have S := E.lit hi
    rw [e] at S
    exact o_isWord hl E.1 E.2.2.1 L S h1 h2
  have ix : (1244 : Int32) + 4 * nI i = nI (1244 + 4 * i) := by rw [show (1244 : Int32) = nI 1244 from rfl, show (4 : Int32) = nI 4 from rfl, pk_mul, nI_add]
  have cl : Int32.toNatClampNeg ((1244 : Int32) + 4 * nI i) = 1244 + 4 * i := by rw [ix, nI_clamp (by omega)]
  have aw : aW G h 101 (m + 1) ((1244 : Int32) + 4 * nI i) := by rw [ix]; exact E.W.wr hm (by omega)
  have main : ∀ y, y = kI (tok b u q) → Ev G m_Mo_readLawLine 56 [.ref m, un, .int ((1244 : Int32) + 4 * nI i)] [] (hset h (m + 1) (Int32.toNatClampNeg ((1244 : Int32) + 4 * nI i)) (.int y)) 0 0 (mlP G h m tk A b u cs i (lnL b u q)) := by
    intro y ey
    rw [cl, ix]
    have E1 := E.dr hm (i := 1244 + 4 * i) (by omega) y
    have C1 := C.row (i := 1244 + 4 * i) (by omega) y
    have F1 : Fs (mG m i) h (hset h (m + 1) (1244 + 4 * i) (.int y)) := Fs.rf.set (Or.inr ⟨rfl, by omega, by omega⟩)
    have v1 : (hset h (m + 1) (1244 + 4 * i) (.int y)).2.1 (m + 1) (1244 + 4 * i) = .int y := hs_eq
    have L1 : LtA (hset h (m + 1) (1244 + 4 * i) (.int y)) m b u q := ⟨L.1, L.2.1, by rw [hs_ne (by omega)]; exact L.2.2.1, by unfold BgA; rw [hs_ne (by omega)]; exact L.2.2.2⟩
    generalize hset h (m + 1) (1244 + 4 * i) (.int y) = g1 at *
    refine e_Mo_readLawLine_56 hl _ _ _ _ ⟨_, E1.W.r1, y, aI_of E1.W.1.2.1 (by omega) (by decide) v1, fun c => ?_, fun c => ?_⟩
    · rw [ey] at c
      have k3 := (kI_pos _).mp c
      have ek : kI (tok b u q) = nI (kn (tok b u q)) := by unfold kI; rw [if_pos k3]
      have ow := kn_0 _ (tok_lt (b := b) (u := u) (i := q)) k3
      have lt : q < u := tok_in (o := tok b u q) rfl (by omega)
      have g := nx_gt (b := b) lt
      have l' := nx_le (b := b) lt
      have R1 := L1.rs ow.2 ow.1 rfl
      have ix1 : nI (1244 + 4 * i) + 1 = nI (1244 + 4 * i + 1) := nI_1 _
      unfold lnL
      rw [if_pos k3]
      rcases en_ : num b u 0 40 (nx b u q) with ⟨qa, _ | nn⟩
      · refine ⟨_, E1.W.r1, E1.kd, _, o_num hl hm E1.2.2.1 R1 (lo := 0) (hi := 40) (by omega) (by omega) en_, fun o2 h2 z => Or.inl ⟨_, z.1, ?_⟩⟩
        obtain ⟨-, F2, B2⟩ := z
        have E2 := E1.kS hm F2
        rw [ix1]
        refine ⟨E2.W.wr hm (by omega), ?_⟩
        rw [nI_clamp (by omega)]
        have E3 := E2.dr hm (i := 1244 + 4 * i + 1) (by omega) (mnP none)
        refine e_Mo_readLawLine_82 hl _ _ _ _ ⟨_, E3.W.r1, mnP none, by rw [ix1]; exact aI_of E3.W.1.2.1 (by omega) (by decide) hs_eq, fun c => absurd c not_m1, fun _ => ?_⟩
        refine ⟨rfl, (F1.tr (mG_d (mD_s F2))).set (Or.inr ⟨rfl, by omega, by omega⟩), E3, fun _ => ?_, fun _ z => nomatch z⟩
        have B2' : BgA h2 m qa := B2
        unfold BgA at *; rw [hs_ne (by omega)]; exact B2'
      · refine ⟨_, E1.W.r1, E1.kd, _, o_num hl hm E1.2.2.1 R1 (lo := 0) (hi := 40) (by omega) (by omega) en_, fun o2 h2 z => Or.inl ⟨_, z.1, ?_⟩⟩
        obtain ⟨-, F2, B2⟩ := z
        have R2 : RsA h2 m b u qa := B2
        have E2 := E1.kS hm F2
        have C2 : CdA h2 m cs := C1.keep (fun a j z => F2.2.2 a j (by unfold mS; omega))
        have nb := (num_b en_).2
        have qae : qa = nx b u (nx b u q) ∧ nx b u q < u := by
          rcases num_c en_ with ⟨c, z, -⟩ | ⟨-, -, z⟩
          · exact ⟨z, tok_in c.1 (by decide)⟩
          · cases z
        have g2 := nx_gt (b := b) qae.2
        have l2 := nx_le (b := b) qae.2
        rw [ix1]
        refine ⟨E2.W.wr hm (by omega), ?_⟩
        rw [nI_clamp (by omega), show mnP (some nn) = nI nn from rfl]
        have E3 := E2.dr hm (i := 1244 + 4 * i + 1) (by omega) (nI nn)
        have C3 := C2.row (i := 1244 + 4 * i + 1) (by omega) (nI nn)
        have F3 : Fs (mG m i) h (hset h2 (m + 1) (1244 + 4 * i + 1) (.int (nI nn))) := (F1.tr (mG_d (mD_s F2))).set (Or.inr ⟨rfl, by omega, by omega⟩)
        have k3' : (hset h2 (m + 1) (1244 + 4 * i + 1) (.int (nI nn))).2.1 (m + 1) (1244 + 4 * i) = .int (nI (kn (tok b u q))) := by rw [hs_ne (by omega), F2.2.2 _ _ (by unfold mS; omega), v1, ey, ek]
        have a3 : (hset h2 (m + 1) (1244 + 4 * i + 1) (.int (nI nn))).2.1 (m + 1) (1244 + 4 * i + 1) = .int (nI nn) := hs_eq
        have R3 : RsA (hset h2 (m + 1) (1244 + 4 * i + 1) (.int (nI nn))) m b u qa := R2.ke (hs_ne (by omega))
        generalize hset h2 (m + 1) (1244 + 4 * i + 1) (.int (nI nn)) = g3 at *
        refine e_Mo_readLawLine_82 hl _ _ _ _ ⟨_, E3.W.r1, nI nn, by rw [ix1]; exact aI_of E3.W.1.2.1 (by omega) (by decide) a3, fun _ => ?_, fun c => absurd (nI_pos' (by omega)) c⟩
        have ix2 : nI (1244 + 4 * i) + 2 = nI (1244 + 4 * i + 2) := nI_add _ 2
        refine ⟨_, E3.W.r1, _, ⟨E3.kd, C3.1⟩, by rw [ix2]; exact E3.W.wr hm (by omega), ?_⟩
        rw [ix2, nI_clamp (by omega)]
        have E4 := E3.dr hm (i := 1244 + 4 * i + 2) (by omega) (nI cs.length)
        have C4 := C3.row (i := 1244 + 4 * i + 2) (by omega) (nI cs.length)
        have F4 : Fs (mG m i) h (hset g3 (m + 1) (1244 + 4 * i + 2) (.int (nI cs.length))) := F3.set (Or.inr ⟨rfl, by omega, by omega⟩)
        have k4 : (hset g3 (m + 1) (1244 + 4 * i + 2) (.int (nI cs.length))).2.1 (m + 1) (1244 + 4 * i) = .int (nI (kn (tok b u q))) := by rw [hs_ne (by omega)]; exact k3'
        have a4 : (hset g3 (m + 1) (1244 + 4 * i + 2) (.int (nI cs.length))).2.1 (m + 1) (1244 + 4 * i + 1) = .int (nI nn) := by rw [hs_ne (by omega)]; exact a3
        have s4 : (hset g3 (m + 1) (1244 + 4 * i + 2) (.int (nI cs.length))).2.1 (m + 1) (1244 + 4 * i + 2) = .int (nI cs.length) := hs_eq
        have R4 : RsA (hset g3 (m + 1) (1244 + 4 * i + 2) (.int (nI cs.length))) m b u qa := R3.ke (hs_ne (by omega))
        generalize hset g3 (m + 1) (1244 + 4 * i + 2) (.int (nI cs.length)) = g4 at *
        refine e_Mo_readLawLine_107 hl _ _ _ _ ⟨⟨hm, E4.kd⟩, ?_⟩
        have E5 : MC G (hset g4 m 13 (.int 0)) m tk A b u cs 0 := ⟨E4.fd hm (Or.inl rfl) 0, C4.keep (fun a j z => hs_ne (by omega)), hs_eq⟩
        have F5 : Fs (mG m i) h (hset g4 m 13 (.int 0)) := F4.set (Or.inl (Or.inr (Or.inl ⟨rfl, rfl⟩)))
        have k5 : (hset g4 m 13 (.int 0)).2.1 (m + 1) (1244 + 4 * i) = .int (nI (kn (tok b u q))) := by rw [hs_ne (by omega)]; exact k4
        have a5 : (hset g4 m 13 (.int 0)).2.1 (m + 1) (1244 + 4 * i + 1) = .int (nI nn) := by rw [hs_ne (by omega)]; exact a4
        have s5 : (hset g4 m 13 (.int 0)).2.1 (m + 1) (1244 + 4 * i + 2) = .int (nI cs.length) := by rw [hs_ne (by omega)]; exact s4
        have R5 : RsA (hset g4 m 13 (.int 0)) m b u qa := R4.ke (hs_ne (by omega))
        generalize hset g4 m 13 (.int 0) = g5 at *
        have ix3 : nI (1244 + 4 * i) + 3 = nI (1244 + 4 * i + 3) := nI_add _ 3
        /- the end of a line -/
        have fin : ∀ {g6 : Hp} {q6 : Nat} (c : Lc), MC G g6 m tk A b u (cs ++ c.2) 0 → RsA g6 m b u q6 → Fs (mD m) g5 g6 → ∃ y5, fR g6 11 m 1 y5 ∧ ∃ x6, fI g6 11 m 16 x6 ∧ aW G g6 101 y5 (nI (1244 + 4 * i) + 3) ∧ Ev G m_Mo_readLawLine 143 [un, un, un] [] (hset g6 y5 (Int32.toNatClampNeg (nI (1244 + 4 * i) + 3)) (.int x6)) 0 0 (mlP G h m tk A b u cs i (q6, some (kn (tok b u q), nn, c))) := by
          intro g6 q6 c E6 R6 F6
          refine ⟨_, E6.1.W.r1, _, ⟨E6.kd, E6.2.1.1⟩, by rw [ix3]; exact E6.1.W.wr hm (by omega), ?_⟩
          rw [ix3, nI_clamp (by omega)]
          have ko : ∀ j, 1244 + 4 * i ≤ j → j < 1244 + 4 * i + 3 → (hset g6 (m + 1) (1244 + 4 * i + 3) (.int (nI (cs ++ c.2).length))).2.1 (m + 1) j = g5.2.1 (m + 1) j := fun j h1 h2 => by
            rw [hs_ne (by omega), F6.2.2 _ _ (by unfold mD mS mE; omega)]
          refine e_Mo_readLawLine_143 hl _ _ ⟨rfl, (F5.tr (mG_d F6)).set (Or.inr ⟨rfl, by omega, by omega⟩), E6.1.dr hm (by omega) _, fun z => (nomatch z), fun l z => ?_⟩
          cases z
          exact ⟨E6.2.1.row (by omega) _, R6.ke (hs_ne (by omega)), ⟨_, by rw [hs_ne (by omega)]; exact E6.2.2⟩, by rw [ko _ (by omega) (by omega)]; exact k5, by rw [ko _ (by omega) (by omega)]; exact a5, by rw [ko _ (by omega) (by omega)]; exact s5, hs_eq⟩
        refine e_Mo_readLawLine_112 hl _ _ _ _ ⟨E5.kd, _, o_passes hl hm E5.1.1 E5.1.2.2.1 R5 (E5.1.lit (i := 17) (by decide)) (o := 20) (by decide) (by decide), fun o6 h6 z => Or.inl ⟨_, z.1, fun d => ?_, fun d => ?_⟩⟩
        · obtain ⟨-, R6, B6, F6⟩ := z
          have t := ite0 d
          rw [if_neg t] at R6
          have E6 := E5.kS hm F6
          show ∃ y5, _
          rw [show (bnd ((qa, some nn) : Nat × Option Nat) fun q1 n => if tok b u q1 = 20 then bnd (orL (atmL b u 6) b u (nx b u q1)) fun q2 c => (q2, some (kn (tok b u q), n, c)) else (q1, some (kn (tok b u q), n, ([], [])))) = (if tok b u qa = 20 then bnd (orL (atmL b u 6) b u (nx b u qa)) fun q2 c => (q2, some (kn (tok b u q), nn, c)) else (qa, some (kn (tok b u q), nn, ([], [])))) from rfl, if_neg t]
          exact fin ([], []) (by rw [List.append_nil]; exact E6) R6 (mD_s F6)
        · obtain ⟨-, R6, B6, F6⟩ := z
          have t := ite1 d
          rw [if_pos t] at R6
          have lt6 := tok_in t (by decide)
          have g6 := nx_gt (b := b) lt6
          have E6 := E5.kS hm F6
          show (h6.1 m).1 = 11 ∧ _
          rw [show (bnd ((qa, some nn) : Nat × Option Nat) fun q1 n => if tok b u q1 = 20 then bnd (orL (atmL b u 6) b u (nx b u q1)) fun q2 c => (q2, some (kn (tok b u q), n, c)) else (q1, some (kn (tok b u q), n, ([], [])))) = (if tok b u qa = 20 then bnd (orL (atmL b u 6) b u (nx b u qa)) fun q2 c => (q2, some (kn (tok b u q), nn, c)) else (qa, some (kn (tok b u q), nn, ([], [])))) from rfl, if_pos t]
          refine ⟨E6.kd, _, ol_cond hl hm E6 R6 (by omega), fun o7 h7 z => Or.inl ?_⟩
          obtain ⟨z1, F7, E7, z4, z5⟩ := z
          rcases ec : orL (atmL b u 6) b u (nx b u qa) with ⟨qb, _ | cc⟩
          · rw [ec] at z1 z4
            refine ⟨_, z1, fun c => absurd rfl c, fun _ => ⟨rfl, F5.tr (mG_d ((mD_s F6).tr F7)), E7, fun _ => z4 rfl, fun _ z => nomatch z⟩⟩
          · rw [ec] at z1 z5
            obtain ⟨C7, R7⟩ := z5 _ rfl
            exact ⟨_, z1, fun _ => fin cc C7 R7 ((mD_s F6).tr F7), fun c => absurd c one0⟩
    · rw [ey] at c
      have k3 : ¬ kn (tok b u q) < 3 := fun z => c ((kI_pos _).mpr z)
      unfold lnL
      rw [if_neg k3]
      exact ⟨rfl, F1, E1, fun _ => L1.2.2.2, fun _ z => nomatch z⟩
  refine en_Mo_readLawLine h _ _ _ (e_Mo_readLawLine_0 hl h _ _ _ ⟨_, E.W.r1, E.kd, _, is (i := 2) (o := 5) (by decide) rfl (by decide) (by decide), fun c0 => ⟨E.kd, _, is (i := 15) (o := 18) (by decide) rfl (by decide) (by decide), fun c1 => ⟨E.kd, _, is (i := 16) (o := 19) (by decide) rfl (by decide) (by decide), fun c2 => ⟨aw, main _ ?_⟩, fun c2 => ⟨aw, main _ ?_⟩⟩, fun c1 => ⟨aw, main _ ?_⟩⟩, fun c0 => ⟨aw, main _ ?_⟩⟩)
  · exact ((kI_m _).mpr (kn_no _ tok_lt (ite0 c0) (ite0 c1) (ite0 c2))).symm
  · rw [ite1 c2]; rfl
  · rw [ite1 c1]; rfl
  · rw [ite1 c0]; rfl
end MLA
