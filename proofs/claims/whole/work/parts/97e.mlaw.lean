/-! ===== law(): the reference ===== -/
theorem ad_n3 {k j : Nat} (h : dom k j) : ad k j ≠ 3 := by
  unfold ad
  rcases h with ⟨rfl, h⟩ | ⟨h1, h2, h3⟩ | ⟨h1, h2, h3⟩ | ⟨h1, h2, h3⟩
  · rw [if_pos rfl]
    have : j = 0 ∨ j = 1 ∨ j = 2 ∨ j = 3 ∨ j = 4 ∨ j = 5 ∨ j = 6 ∨ j = 7 := by omega
    rcases this with rfl | rfl | rfl | rfl | rfl | rfl | rfl | rfl <;> decide
  · rw [if_neg (by omega), if_pos h2]; omega
  · rw [if_neg (by omega), if_neg (by omega), if_pos h2]; omega
  · rw [if_neg (by omega), if_neg (by omega), if_neg (by omega)]; omega
section MLW
variable {G : Gx} {h h' : Hp} {tk : Nat → Nat} {m : Nat} {A : Vs} {T : Tt} {ln : Int32} {im : Option Sv} {pa : Nat → Vs} {r : Nat} {b : Nat → Nat} {n : Nat} {fl : Int32}
theorem MV.via2 (M : MV G h m A T ln im pa r) (W : WldAt h' m A) (F : Fs (mX m) h h') : MV G h' m A T ln im pa r := by
  obtain ⟨W0, L, I, ⟨r1, r2⟩, c5, sn⟩ := M
  have k : ∀ a j, ¬ mX m a j → h'.2.1 a j = h.2.1 a j := F.2.2
  have k3 : h'.2.1 (m + 1) 3 = h.2.1 (m + 1) 3 := k _ _ (by unfold mX; omega)
  refine ⟨W, L.congr (fun j hj => k _ _ (by unfold mX; omega)), I.keep (k _ _ (by unfold mX; omega)) (fun j _ => k _ _ (by unfold mX; omega)), ⟨r1, by rw [k _ _ (by unfold mX; omega)]; exact r2⟩, fun j hj => by rw [k _ _ (by unfold mX; omega)]; exact c5 j hj, fun i hi => ?_⟩
  rw [k3]
  exact (sn i hi).keep (fun j _ => k _ _ (by unfold mX; omega))
def mLaw (G : Gx) (h : Hp) (m : Nat) (A : Vs) (T : Tt) (ln : Int32) (im : Option Sv) (pa : Nat → Vs) (r : Nat) (b : Nat → Nat) (n : Nat) : Res → Hp → Prop := fun o h' => o = .inl (some (.int (lawQ b n).2)) ∧ h'.2.1 m 0 = .int (lawQ b n).1 ∧ Fs (mZ m) h h' ∧ match (lawL b n).2 with
  | none => MT G h' m A T ln im pa r b 0 (lR (lawL b n))
  | some D => MT G h' m A (lawT D) (nI D.length) im pa 0 b 0 (lR (lawL b n))
theorem mX_Z (F : Fs (mX m) h h') : Fs (mZ m) h h' := F.mono (fun a j z => by unfold mX at z; unfold mZ; omega)
theorem p_law (hl : G.1.stackTraces = false) (hm : G.n0 ≤ m) (O : Old G h tk) (Lg : LitG G h) (X : MT G h m A T ln im pa r b n fl) : EvM G m_Mo_law [.ref m] h (mLaw G h m A T ln im pa r b n) := by
  obtain ⟨M, ⟨u, Tp⟩, q14⟩ := X
  refine en_Mo_law h _ m (e_Mo_law_0 hl h _ m ⟨M.W.kd, _, o_readL hl hm O Lg Tp M.W, fun o1 h1 z => Or.inl ?_⟩)
  obtain ⟨y, z1, z2, F1, e0, T1, W1, zB, zD⟩ := z
  have main : ∀ (fl' : Int32), fl' = lR (lawL b n) → Ev G m_Mo_law 22 [.ref m, .int y, un] [] (hset h1 m 14 (.int fl')) 0 0 (mLaw G h m A T ln im pa r b n) := by
    intro fl' ef
    have F14 : Fs (fun a j => a = m ∧ j = 14) h1 (hset h1 m 14 (.int fl')) := Fs.rf.set ⟨rfl, rfl⟩
    have W2 : WldAt (hset h1 m 14 (.int fl')) m A := W1.keepF F14 (fun j _ z => by omega) (fun j _ z => by omega)
    have T2 : TpM (hset h1 m 14 (.int fl')) m b 0 n := T1.keep F14 (fun a j z q => by omega)
    have F2 : Fs (mX m) h (hset h1 m 14 (.int fl')) := F1.set (Or.inl ⟨rfl, by omega⟩)
    have e02 : (hset h1 m 14 (.int fl')).2.1 m 0 = .int 0 := by rw [hs_ne (by omega)]; exact e0
    have f14 : (hset h1 m 14 (.int fl')).2.1 m 14 = .int fl' := hs_eq
    have zD2 : ∀ D, (lawL b n).2 = some D → y = nI D.length ∧ D.length ≤ 12 ∧ LnM ((hset h1 m 14 (.int fl')).2.1 (m + 1)) 1243 D ∧ CdA (hset h1 m 14 (.int fl')) m (cdsD D) := fun D e => by
      obtain ⟨d1, d2, d3, d4⟩ := zD D e
      refine ⟨d1, d2, ?_, d4.keep (fun a j z => hs_ne (by omega))⟩
      rw [show (hset h1 m 14 (.int fl')).2.1 (m + 1) = h1.2.1 (m + 1) from funext fun j => hs_ne (by omega)]; exact d3
    generalize hset h1 m 14 (.int fl') = g2 at *
    refine e_Mo_law_22 hl _ _ m _ ⟨fun c => ?_, fun c => ?_⟩
    · have hs := z2.mp c
      obtain ⟨D, e⟩ : ∃ D, (lawL b n).2 = some D := Option.isSome_iff_exists.mp hs
      obtain ⟨ey, d12, Ln2, C2⟩ := zD2 D e
      have ok := lawL_ok e
      have eq : lawQ b n = (0, nI D.length) := by unfold lawQ; rw [e]
      refine ⟨W2.kd, _, o_thr0 hl 1, fun o3 h3 w => Or.inl ⟨0, w.1, fun _ => ?_, fun q => absurd rfl q⟩⟩
      rw [w.2]
      refine ⟨_, W2.r1, W2.wr hm (n := 1243) (by omega), ?_⟩
      show Ev G m_Mo_law 50 [.ref m, .int y, un] [] (hset g2 (m + 1) 1243 (.int y)) 0 0 _
      have W3 := W2.dr (i := 1243) (by omega) y
      have F3 : Fs (mX m) h (hset g2 (m + 1) 1243 (.int y)) := F2.set (Or.inr ⟨rfl, by omega⟩)
      have T3 : TpM (hset g2 (m + 1) 1243 (.int y)) m b 0 n := T2.keep (P := fun a j => a = m + 1) (Fs.rf.set rfl) (fun a j z q => by omega)
      have e03 : (hset g2 (m + 1) 1243 (.int y)).2.1 m 0 = .int 0 := by rw [hs_ne (by omega)]; exact e02
      have f143 : (hset g2 (m + 1) 1243 (.int y)).2.1 m 14 = .int fl' := by rw [hs_ne (by omega)]; exact f14
      have v1243 : (hset g2 (m + 1) 1243 (.int y)).2.1 (m + 1) 1243 = .int y := hs_eq
      have Ln3 : LnM ((hset g2 (m + 1) 1243 (.int y)).2.1 (m + 1)) 1243 D := fun i l hi => by
        rw [hs_ne (by omega), hs_ne (by omega), hs_ne (by omega), hs_ne (by omega)]; exact Ln2 i l hi
      have Cd3 : CdM ((hset g2 (m + 1) 1243 (.int y)).2.1 (m + 1)) 1243 (cdsD D) := ⟨C2.2.1, fun j k n hj => by
        rw [hs_ne (by omega), hs_ne (by omega)]; exact C2.2.2 j k n hj⟩
      generalize hset g2 (m + 1) 1243 (.int y) = g3 at *
      obtain ⟨w, Wa, Wr⟩ := W3.wat
      refine e_Mo_law_50 hl _ _ m _ ?_
      have km : ∀ t a j, a ≠ m + 1 → (cpO g3 (m + 1) 394 (m + 1) 1243 t).2.1 a j = g3.2.1 a j := fun t a j n1 => by rw [cpO_ne n1]
      have st2 : Ev G m_Mo_law 52 [.ref m, .int y, .int (nI 0)] [] (cpO g3 (m + 1) 394 (m + 1) 1243 0) 0 0 (mLaw G h m A T ln im pa r b n) := by
        refine for_up (Q := fun t => Ev G m_Mo_law 52 [.ref m, .int y, .int (nI t)] [] (cpO g3 (m + 1) 394 (m + 1) 1243 t) 0 0 _) (n := 849) ?_ (fun t ht ih => ?_) 0 (Nat.zero_le _)
        · have in1 : ∀ j, j < 849 → (cpO g3 (m + 1) 394 (m + 1) 1243 849).2.1 (m + 1) (394 + j) = g3.2.1 (m + 1) (1243 + j) := fun j hj => cpO_in hj
          have out1 : ∀ j, j < 394 ∨ 1243 ≤ j → (cpO g3 (m + 1) 394 (m + 1) 1243 849).2.1 (m + 1) j = g3.2.1 (m + 1) j := fun j hj => cpO_out (by omega)
          have Fc : Fs (fun a j => a = m + 1 ∧ 394 ≤ j) g3 (cpO g3 (m + 1) 394 (m + 1) 1243 849) := cpO_Fs (fun j h1 h2 => ⟨rfl, h1⟩)
          have S4 : ModSh (cpO g3 (m + 1) 394 (m + 1) 1243 849) m := W3.1.keep (fun a _ _ => rfl) (fun j hj => km _ _ _ (by omega))
          have cel : ∀ j, j < 2092 → ∃ x, (cpO g3 (m + 1) 394 (m + 1) 1243 849).2.1 (m + 1) j = .int x := fun j hj => by
            by_cases z : 394 ≤ j ∧ j < 1243
            · obtain ⟨i, rfl⟩ : ∃ i, j = 394 + i := ⟨j - 394, by omega⟩
              rw [in1 i (by omega)]; exact ⟨_, Wa.2 _ (by omega)⟩
            · rw [out1 j (by omega)]; exact ⟨_, Wa.2 _ hj⟩
          generalize cpO g3 (m + 1) 394 (m + 1) 1243 849 = g4 at *
          refine e_Mo_law_52 hl _ _ m _ _ ⟨fun _ => ?_, fun c => absurd (by decide) c⟩
          have kd4 : (g4.1 m).1 = 11 := by rw [S4.1.1]
          refine ⟨m + 1, ⟨kd4, S4.1.2.1⟩, aW_of (i := 3) (by omega) S4.2.1 (by decide) (by decide), ?_⟩
          show Ev G m_Mo_law 92 [.ref m, .int y, un] [] (hset g4 (m + 1) 3 (.int 1)) 0 0 _
          refine e_Mo_law_92 hl _ _ m _ ⟨⟨hm, kd4⟩, e_Mo_law_97 hl _ _ _ ?_⟩
          have F5 : Fs (fun a j => (a = m + 1 ∧ (j = 3 ∨ 394 ≤ j)) ∨ (a = m ∧ j = 7)) g3 (hset (hset g4 (m + 1) 3 (.int 1)) m 7 (.int 0)) := ((Fc.mono (fun a j z => Or.inl ⟨z.1, by omega⟩)).set (Or.inl ⟨rfl, by omega⟩)).set (Or.inr ⟨rfl, rfl⟩)
          have r5 : ∀ j, j ≠ 3 → (hset (hset g4 (m + 1) 3 (.int 1)) m 7 (.int 0)).2.1 (m + 1) j = g4.2.1 (m + 1) j := fun j hj => by rw [hs_ne (by omega), hs_ne (by omega)]
          have c3 : (hset (hset g4 (m + 1) 3 (.int 1)) m 7 (.int 0)).2.1 (m + 1) 3 = .int 1 := by rw [hs_ne (by omega)]; exact hs_eq
          have f7 : (hset (hset g4 (m + 1) 3 (.int 1)) m 7 (.int 0)).2.1 m 7 = .int (nI 0) := hs_eq
          have S5 : ModSh (hset (hset g4 (m + 1) 3 (.int 1)) m 7 (.int 0)) m := S4.keep (fun a _ _ => rfl) (fun j hj => by rw [hs_ne (by omega), hs_ne (by omega)])
          generalize hset (hset g4 (m + 1) 3 (.int 1)) m 7 (.int 0) = g5 at *
          have W5 : WldAt g5 m A := by
            refine ⟨S5, fun j => vI (g5.2.1 (m + 1) j), fun j hj => ?_, fun kk j hd => ?_⟩
            · show g5.2.1 (m + 1) j = Value.int (vI (g5.2.1 (m + 1) j))
              by_cases z : j = 3
              · rw [z, c3]; rfl
              · obtain ⟨x, hx⟩ := cel j hj
                rw [r5 j z, hx]; rfl
            · have lt := ad_lt hd
              have n3 := ad_n3 hd
              show _ = vI (g5.2.1 (m + 1) (ad kk j))
              rw [r5 _ n3, out1 _ (by omega), Wa.2 _ (by omega)]
              exact Wr kk j hd
          have Ln5 : LnM (g5.2.1 (m + 1)) 394 D := fun i l hi => by
            have : i < D.length := (List.getElem?_eq_some_iff.mp hi).1
            have := Ln3 i l hi
            rw [r5 _ (by omega), r5 _ (by omega), r5 _ (by omega), r5 _ (by omega), show 394 + 1 + 4 * i = 394 + (1 + 4 * i) by omega, show 394 + (1 + 4 * i) + 1 = 394 + (1 + 4 * i + 1) by omega, show 394 + (1 + 4 * i) + 2 = 394 + (1 + 4 * i + 2) by omega, show 394 + (1 + 4 * i) + 3 = 394 + (1 + 4 * i + 3) by omega, in1 _ (by omega), in1 _ (by omega), in1 _ (by omega), in1 _ (by omega)]
            rw [show 1243 + 1 + 4 * i = 1243 + (1 + 4 * i) by omega, show 1243 + (1 + 4 * i) + 1 = 1243 + (1 + 4 * i + 1) by omega, show 1243 + (1 + 4 * i) + 2 = 1243 + (1 + 4 * i + 2) by omega, show 1243 + (1 + 4 * i) + 3 = 1243 + (1 + 4 * i + 3) by omega] at this
            exact this
          have Cd5 : CdM (g5.2.1 (m + 1)) 394 (cdsD D) := ⟨Cd3.1, fun j k n hj => by
            have : j < (cdsD D).length := (List.getElem?_eq_some_iff.mp hj).1
            have := Cd3.1
            have q := Cd3.2 j k n hj
            rw [r5 _ (by omega), r5 _ (by omega), show 394 + 49 + 2 * j = 394 + (49 + 2 * j) by omega, show 394 + (49 + 2 * j) + 1 = 394 + (49 + 2 * j + 1) by omega, in1 _ (by omega), in1 _ (by omega)]
            rw [show 1243 + 49 + 2 * j = 1243 + (49 + 2 * j) by omega, show 1243 + (49 + 2 * j) + 1 = 1243 + (49 + 2 * j + 1) by omega] at q
            exact q⟩
          have c394 : g5.2.1 (m + 1) 394 = .int (nI D.length) := by
            rw [r5 _ (by omega)]
            have := in1 0 (by omega)
            rw [Nat.add_zero, Nat.add_zero] at this
            rw [this, v1243, ey]
          unfold mLaw
          rw [eq, e]
          have k5 : ∀ a j, a ≠ m + 1 → ¬ (a = m ∧ j = 7) → g5.2.1 a j = g3.2.1 a j := fun a j n1 n2 => F5.2.2 a j (by omega)
          have k3 : ∀ a j, ¬ mX m a j → g3.2.1 a j = h.2.1 a j := F3.2.2
          refine ⟨by rw [ey], by rw [k5 _ _ (by omega) (by omega)]; exact e03, (mX_Z F3).tr (F5.mono (fun a j z => by unfold mZ; omega)), ?_, ⟨n, T3.keep F5 (fun a j z q => by omega)⟩, by rw [k5 _ _ (by omega) (by omega), ← ef]; exact f143⟩
          obtain ⟨-, -, I, -, c5, -⟩ := M
          exact ⟨W5, o_lawOk hl hm Ln5 Cd5 d12 c3 c394 ok, I.keep (by rw [k5 _ _ (by omega) (by omega), k3 _ _ (by unfold mX; omega)]) (fun j _ => by rw [k5 _ _ (by omega) (by omega), k3 _ _ (by unfold mX; omega)]), ⟨by omega, f7⟩, fun j hj => by rw [k5 _ _ (by omega) (by omega), k3 _ _ (by unfold mX; omega)]; exact c5 j hj, fun i hi => absurd hi (Nat.not_lt_zero _)⟩
        · have ixs : (1243 : Int32) + nI t = nI (1243 + t) := by rw [show (1243 : Int32) = nI 1243 from rfl, nI_add]
          have ixd : (394 : Int32) + nI t = nI (394 + t) := by rw [show (394 : Int32) = nI 394 from rfl, nI_add]
          have kd : ((cpO g3 (m + 1) 394 (m + 1) 1243 t).1 m).1 = 11 := W3.kd
          have f1 : (cpO g3 (m + 1) 394 (m + 1) 1243 t).2.1 m 1 = .ref (m + 1) := by rw [km _ _ _ (by omega)]; exact W3.r1.2
          refine e_Mo_law_52 hl _ _ m _ _ ⟨fun c => absurd c (nI_ge ht (by decide)), fun _ => ⟨m + 1, ⟨kd, f1⟩, m + 1, ⟨kd, f1⟩, w (1243 + t), ?_, ?_, ?_⟩⟩
          · rw [ixs]
            exact aI_of (n := 2092) W3.1.2.1 (by omega) (by decide) (by rw [cpO_rd (Or.inr (Or.inr (by omega)))]; exact Wa.2 _ (by omega))
          · rw [ixd]; exact aW_of (n := 2092) (by omega) W3.1.2.1 (by omega) (by decide)
          · rw [ixd, nI_clamp (by omega)]
            refine e_Mo_law_79 hl _ _ m _ _ ?_
            rw [nI_1]
            have es := cpO_s (h := g3) (a := m + 1) (da := 394) (b := m + 1) (sb := 1243) (t := t)
            rw [Wa.2 (1243 + t) (by omega)] at es
            rw [es]; exact ih
      rw [cpO_0] at st2
      exact st2
    · have e1 : (lawL b n).2 = none := by
        cases z : (lawL b n).2 with
        | none => rfl
        | some a => exact absurd (z2.mpr (by rw [z]; rfl)) c
      have eq : lawQ b n = (1, 0) := by unfold lawQ; rw [e1]
      refine ⟨W2.kd, _, o_thr1 hl hm W2 1, fun o4 h4 w => Or.inl ⟨1, w.1, fun q => absurd q one0, fun _ => ?_⟩⟩
      rw [w.2]
      have F3 : Fs (mX m) h (hset g2 m 0 (.int 1)) := F2.set (Or.inl ⟨rfl, Or.inl rfl⟩)
      unfold mLaw
      rw [eq, e1]
      exact ⟨rfl, hs_eq, mX_Z F3, M.via2 (W2.thr 1) F3, ⟨n, T2.keep (P := fun a j => a = m ∧ j = 0) (Fs.rf.set ⟨rfl, rfl⟩) (fun a j z q => by omega)⟩, by rw [hs_ne (by omega), ← ef]; exact f14⟩
  refine ⟨y, z1, fun c => ⟨⟨hm, W1.kd⟩, main _ ?_⟩, fun c => ?_⟩
  · unfold lR; rw [if_pos (z2.mp c)]
  · have e1 : (lawL b n).2 = none := by
      cases z : (lawL b n).2 with
      | none => rfl
      | some a => exact absurd (z2.mpr (by rw [z]; rfl)) c
    refine ⟨_, ⟨W1.kd, zB e1⟩, ⟨hm, W1.kd⟩, main _ ?_⟩
    unfold lR; rw [e1]; rfl
end MLW
