/-! ===== the class: nights ===== -/
section VA3
variable {G : Gx} {h : Hp} {v : Nat} {A : Vs} {la : Nat} {T : Tt}
theorem v_letGo (hl : G.1.stackTraces = false) (hv : G.n0 ≤ v) (dj : Dj v la) (V : VlyAt h v A la) (W : Wf A) (L : LawOk G h la T) : EvM G m_Va_letGo [.ref v] h (vpost v la h (letF T A)) := by
  refine en_Va_letGo h _ v (e_Va_letGo_0 hl h _ v ?_)
  refine for_up (Q := fun t => ∀ h1, VlyAt h1 v (lp (letS T) t A) la → Fs (inV v) h h1 → Ev G m_Va_letGo 2 [.ref v, .int (nI t), un] [] h1 0 0 _) (n := nP A) (fun h1 V1 F1 => ?_) (fun t ht ih h1 V1 F1 => ?_) 0 (Nat.zero_le _) h V Fs.rf
  · obtain ⟨W1, K1⟩ := W.let' T (nP A) (Nat.le_refl _)
    exact e_Va_letGo_2 hl h1 _ v _ ⟨_, V1.f0, fun _ => ⟨rfl, V1, F1⟩, fun c => absurd (by have := W1.1.end_P; rw [K1.1] at this; exact this) c⟩
  · obtain ⟨W1, K1⟩ := W.let' T t (Nat.le_of_lt ht)
    have L1 := dj.keep L F1
    have hp : t < nP (lp (letS T) t A) := by rw [K1.1]; exact ht
    generalize hA : lp (letS T) t A = A1 at *
    have ih : ∀ h1, VlyAt h1 v (letS T t A1) la → Fs (inV v) h h1 → Ev G m_Va_letGo 2 [.ref v, .int (nI (t + 1)), un] [] h1 0 0 (vpost v la h (letF T A)) := fun h2 V2 F2 => ih h2 (by show VlyAt h2 v (letS T t (lp (letS T) t A)) la; rw [hA]; exact V2) F2
    refine e_Va_letGo_2 hl h1 _ v _ ⟨_, V1.f0, fun c => absurd c (W1.1.in_P hp), fun _ => ⟨V1.kd, _, v_holding hl V1 W1.1 _, V1.kd, _, v_living hl V1 W1.1 hp, fun c => ?_, fun c => ⟨fun d => ?_, fun d => ?_⟩⟩⟩
    · rw [nI_1]; exact ih h1 (by unfold letS; rw [if_neg (ite0 c)]; exact V1) F1
    · rw [nI_1]; exact ih h1 (by unfold letS; rw [if_pos (ite1 c), if_pos d]; exact V1) F1
    · rcases holdF_spec A1 (nI t) with ⟨e, -⟩ | ⟨u, hu, e, -, -⟩
      · exact absurd e d
      · have hu10 := W1.1.T10 hu
        have hcl : (holdF A1 (nI t)).toNatClampNeg = u := by rw [e]; exact nI_clamp (by omega)
        refine ⟨_, V1.r8, A1 7 u, by rw [e]; exact V1.a7 hu10, V1.kd, _, v_grips hl V1 W1 L1 hp, fun f => ?_, fun f => ⟨V1.kd, _, by rw [e]; exact v_move hl hv V1 hu10 2 (nI t), fun o h2 z => Or.inl ?_⟩⟩
        · rw [nI_1]; exact ih h1 (by unfold letS; rw [if_pos (ite1 c), if_neg d, hcl, if_pos f]; exact V1) F1
        · obtain ⟨z1, V2, F2⟩ := z
          refine ⟨z1, _, V2.r18, _, V2.f12, _, V2.r1, _, V2.a1 (W1.1.P7 hp), V2.2.2.2.kd, _, by rw [e]; exact v_log hl hv V2 _ _ _ _ _, fun o3 h3 y => Or.inl ?_⟩
          obtain ⟨y1, V3, F3⟩ := y
          refine ⟨y1, ?_⟩
          rw [nI_1]
          refine ih h3 ?_ ((F1.tr F2).tr F3)
          unfold letS
          rw [if_pos (ite1 c), if_neg d, hcl, if_neg f, e]
          rw [mvA_ne (by omega), mvA_ne (by omega)] at V3
          exact V3
theorem thing1 {A : Vs} (B : Bd A) {t : Nat} (ht : t < nT A) : (if nI t < 0 then (0 : Int32) else if A 0 1 ≤ nI t then 0 else 1) = 1 := by
  rw [if_neg (nI_pos (by have := B.T10 ht; omega)), if_neg (B.in_T ht)]
theorem v_feel (hl : G.1.stackTraces = false) (hv : G.n0 ≤ v) (dj : Dj v la) (V : VlyAt h v A la) (W : Wf A) (L : LawOk G h la T) : EvM G m_Va_feel [.ref v] h (vpost v la h (feelF T A)) := by
  refine en_Va_feel h _ v (e_Va_feel_0 hl h _ v ?_)
  refine for_up (Q := fun t => ∀ h1, VlyAt h1 v (lp (feelS T) t A) la → Fs (inV v) h h1 → Ev G m_Va_feel 2 [.ref v, .int (nI t), un, un, un] [] h1 0 0 _) (n := nP A) (fun h1 V1 F1 => ?_) (fun t ht ih h1 V1 F1 => ?_) 0 (Nat.zero_le _) h V Fs.rf
  · obtain ⟨W1, K1⟩ := W.feel' T (nP A) (Nat.le_refl _)
    exact e_Va_feel_2 hl h1 _ v _ ⟨_, V1.f0, fun _ => ⟨rfl, V1, F1⟩, fun c => absurd (by have := W1.1.end_P; rw [K1.1] at this; exact this) c⟩
  · obtain ⟨W1, K1⟩ := W.feel' T t (Nat.le_of_lt ht)
    have L1 := dj.keep L F1
    have hp : t < nP (lp (feelS T) t A) := by rw [K1.1]; exact ht
    generalize hA : lp (feelS T) t A = A1 at *
    have ih : ∀ h1, VlyAt h1 v (feelS T t A1) la → Fs (inV v) h h1 → Ev G m_Va_feel 2 [.ref v, .int (nI (t + 1)), un, un, un] [] h1 0 0 (vpost v la h (feelF T A)) := fun h2 V2 F2 => ih h2 (by show VlyAt h2 v (feelS T t (lp (feelS T) t A)) la; rw [hA]; exact V2) F2
    refine e_Va_feel_2 hl h1 _ v _ ⟨_, V1.f0, fun c => absurd c (W1.1.in_P hp), fun _ => ⟨V1.kd, _, v_clothOf hl V1 W1.1 _, V1.kd, _, v_living hl V1 W1.1 hp, fun c => ?_, fun c => ⟨fun d => ?_, fun d => ⟨V1.kd, _, v_holding hl V1 W1.1 _, fun e => ⟨V1.kd, _, v_draw hl hv V1, fun o h2 z => Or.inl ?_⟩, fun e => ?_⟩⟩⟩⟩
    · rw [nI_1]; exact ih h1 (by unfold feelS; rw [if_neg (ite0 c)]; exact V1) F1
    · rw [nI_1]; exact ih h1 (by unfold feelS; rw [if_pos (ite1 c), if_pos d]; exact V1) F1
    · obtain ⟨z1, V2, F2⟩ := z
      have W2 := W1.up0 (j := 5) (by omega) (sdF (A1 0 5))
      have hp2 : t < nP (up A1 0 5 (sdF (A1 0 5))) := by rw [nP_up (by omega)]; exact hp
      have L2 := dj.keep L1 F2
      obtain ⟨s, k, u, hs, es, s0, ek, hk, -, hu, ef, -, -⟩ := felt_spec W1.1 (p := t) d
      have hu2 : u < nT (up A1 0 5 (sdF (A1 0 5))) := by rw [nT_up (by omega)]; exact hu
      have hu10 := W1.1.T10 hu
      have h1024 := pow_le W1.1.2.2.2
      have eb : bcF (clothF A1 (nI t)) ≠ 0 := by
        rw [es, bcF_small s (by omega)]; exact nI_ne0 (pcN_pos s (by omega) s0) (by have := pcN_le s (by omega); omega)
      have en : nthG (clothF A1 (nI t)) (nT (up A1 0 5 (sdF (A1 0 5)))) 0 (drF (A1 0 5) - drF (A1 0 5) / bcF (clothF A1 (nI t)) * bcF (clothF A1 (nI t))) = nI u := by
        rw [nT_up (by omega)]; exact ef
      have a7 : up A1 0 5 (sdF (A1 0 5)) 7 u = A1 7 u := up_ne (by omega)
      have hcl : (feltF A1 t).toNatClampNeg = u := by rw [ef]; exact nI_clamp (by omega)
      refine ⟨_, z1, _, j_bitCount hl _, eb, V2.kd, nI u, by rw [← en]; exact v_numbered hl V2 W2.1 _ _, V2.kd, 1, by rw [← thing1 W2.1 hu2]; exact v_isThing hl V2 _, fun _ => ⟨_, V2.r8, _, V2.a7 hu10, V2.kd, _, v_grips hl V2 W2 L2 hp2, fun f => ⟨fun _ => ⟨_, V2.r18, _, V2.f12, fun _ => ⟨_, V2.r1, _, V2.a1 (W1.1.P7 hp), V2.2.2.2.kd, _, v_log hl hv V2 _ _ _ _ _, fun o3 h3 y => Or.inl ?_⟩, fun g => absurd rfl g⟩, fun g => absurd rfl g⟩, fun f => ⟨fun g => absurd g (by decide), fun _ => ⟨V2.kd, _, v_move hl hv V2 hu10 1 (nI t), fun o3 h3 y => Or.inl ?_⟩⟩⟩, fun g => absurd g (by decide)⟩
      · obtain ⟨y1, V3, F3⟩ := y
        refine ⟨y1, ?_⟩
        rw [nI_1]
        refine ih h3 ?_ ((F1.tr F2).tr F3)
        unfold feelS
        rw [a7] at f
        rw [if_pos (ite1 c), if_neg d, if_pos e, hcl, if_pos f, ef]
        rw [up_ne (by omega), up_ne (by omega)] at V3
        exact V3
      · obtain ⟨y1, V3, F3⟩ := y
        refine ⟨y1, _, V3.r18, _, V3.f12, fun g => absurd g (by decide), fun _ => ⟨_, V3.r1, _, V3.a1 (W1.1.P7 hp), V3.2.2.2.kd, _, v_log hl hv V3 _ _ _ _ _, fun o4 h4 x => Or.inl ?_⟩⟩
        obtain ⟨x1, V4, F4⟩ := x
        refine ⟨x1, ?_⟩
        rw [nI_1]
        refine ih h4 ?_ (((F1.tr F2).tr F3).tr F4)
        unfold feelS
        rw [a7] at f
        rw [if_pos (ite1 c), if_neg d, if_pos e, hcl, if_neg f, ef]
        rw [mvA_ne (by omega), mvA_ne (by omega), up_ne (by omega), up_ne (by omega)] at V4
        exact V4
    · rw [nI_1]; exact ih h1 (by unfold feelS; rw [if_pos (ite1 c), if_neg d, if_neg e]; exact V1) F1
theorem v_die (hl : G.1.stackTraces = false) (hv : G.n0 ≤ v) (V : VlyAt h v A la) (W : Wf A) {p : Nat} (hp : p < nP A) : EvM G m_Va_die [.ref v, .int (nI p)] h (vpost v la h (dieF A p)) := by
  have hp7 := W.1.P7 hp
  refine en_Va_die h _ v _ (e_Va_die_0 hl h _ v _ ⟨V.kd, _, v_holding hl V W.1 _, V.kd, _, v_successor hl V W.1 W.2.1 hp, ?_⟩)
  have inv : ∀ t k, k ≠ 8 → k ≠ 9 → k ≠ 10 → ∀ j, lp (dS (nI p) (holdF A (nI p)) (succF A p)) t A k j = A k j := fun t k h8 h9 h10 j => by
    rw [lp_dS]; split
    · exact dS_ne (Or.inr ⟨h8, h9, h10⟩)
    · rfl
  have nTt : ∀ t, nT (lp (dS (nI p) (holdF A (nI p)) (succF A p)) t A) = nT A := fun t => by unfold nT; rw [inv t 0 (by decide) (by decide) (by decide)]
  have nPt : ∀ t, nP (lp (dS (nI p) (holdF A (nI p)) (succF A p)) t A) = nP A := fun t => by unfold nP; rw [inv t 0 (by decide) (by decide) (by decide)]
  have Bt : ∀ t, Bd (lp (dS (nI p) (holdF A (nI p)) (succF A p)) t A) := fun t => by unfold Bd; rw [nTt, nPt, inv t 0 (by decide) (by decide) (by decide), inv t 0 (by decide) (by decide) (by decide)]; exact W.1
  refine for_up (Q := fun t => ∀ h1, VlyAt h1 v (lp (dS (nI p) (holdF A (nI p)) (succF A p)) t A) la → Fs (inV v) h h1 → Ev G m_Va_die 15 [.ref v, .int (nI p), .int (holdF A (nI p)), .int (succF A p), .int (nI t), un] [] h1 0 0 _) (n := nT A) (fun h1 V1 F1 => ?_) (fun t ht ih h1 V1 F1 => ?_) 0 (Nat.zero_le _) h V Fs.rf
  · have B1 := Bt (nT A)
    have e1 := nTt (nT A)
    have e2 := nPt (nT A)
    have e12 := inv (nT A) 0 (by decide) (by decide) (by decide) 2
    have ea := inv (nT A) 1 (by decide) (by decide) (by decide) p
    generalize hA : lp (dS (nI p) (holdF A (nI p)) (succF A p)) (nT A) A = A1 at *
    refine e_Va_die_15 hl h1 _ v _ _ _ _ ⟨_, V1.f6, fun _ => ⟨_, V1.f5, ⟨hv, V1.kd⟩, ?_⟩, fun c => absurd (by have := B1.end_T; rw [e1] at this; exact this) c⟩
    have V2 : VlyAt (hset h1 v 5 (.int (flagF A1 5 &&& ((1 : Int32) <<< (nI p &&& 31) ^^^ -1)))) v (up A1 5 p 0) la := by
      refine V1.heads rfl (fun a j hn => hs_ne (by omega)) ?_ ?_ ?_ (fun k j h0 h4 h5 => up_ne (by omega))
      · rw [hs_ne (by omega), up_ne (by omega)]; exact V1.f0.2
      · rw [hs_ne (by omega), flagF_other (by omega) (by omega)]; exact V1.f4.2
      · rw [hs_eq, flagF_up0 B1 (by omega) (by rw [e2]; exact hp)]; rfl
    refine e_Va_die_109 hl _ _ v _ _ ⟨_, V2.r18, _, V2.f12, _, V2.r1, _, V2.a1 hp7, V2.2.2.2.kd, _, v_log hl hv V2 _ _ _ _ _, fun o3 h3 y => Or.inl ?_⟩
    obtain ⟨y1, V3, F3⟩ := y
    refine ⟨y1, rfl, ?_, (F1.set ⟨Nat.le_refl _, by omega⟩).tr F3⟩
    rw [up_ne (by omega), up_ne (by omega), e12, ea] at V3
    rw [dieF_eq]
    unfold deadA
    rw [hA]
    exact V3
  · have B1 := Bt t
    have e1 := nTt t
    have r8 : lp (dS (nI p) (holdF A (nI p)) (succF A p)) t A 8 t = A 8 t := by rw [lp_dS, if_neg (by omega)]
    have r10 : lp (dS (nI p) (holdF A (nI p)) (succF A p)) t A 10 t = A 10 t := by rw [lp_dS, if_neg (by omega)]
    have ht10 := W.1.T10 ht
    generalize hA : lp (dS (nI p) (holdF A (nI p)) (succF A p)) t A = A1 at *
    have ih : ∀ h1, VlyAt h1 v (dS (nI p) (holdF A (nI p)) (succF A p) t A1) la → Fs (inV v) h h1 → Ev G m_Va_die 15 [.ref v, .int (nI p), .int (holdF A (nI p)), .int (succF A p), .int (nI (t + 1)), un] [] h1 0 0 (vpost v la h (dieF A p)) := fun h2 V2 F2 => ih h2 (by show VlyAt h2 v (dS _ _ _ t (lp (dS (nI p) (holdF A (nI p)) (succF A p)) t A)) la; rw [hA]; exact V2) F2
    refine e_Va_die_15 hl h1 _ v _ _ _ _ ⟨_, V1.f6, fun c => absurd c (B1.in_T (by rw [e1]; exact ht)), fun _ => ⟨_, V1.r9, _, V1.a8 ht10, fun c => ⟨fun _ => ?_, fun g => absurd rfl g⟩, fun c => ⟨fun g => absurd g (by decide), fun _ => ⟨_, V1.r9, fun d => ⟨V1.w8 hv ht10, ?_⟩, fun d => ⟨V1.w8 hv ht10, ?_⟩⟩⟩⟩⟩
    · refine e_Va_die_65 hl h1 _ v _ _ _ _ _ ⟨fun g => absurd rfl g, fun _ => ⟨_, V1.r11, _, V1.a10 ht10, fun d => ?_, fun d => ⟨V1.kd, _, v_move hl hv V1 ht10 0 (-1), fun o3 h3 y => Or.inl ?_⟩⟩⟩
      · rw [nI_1]; exact ih h1 (by unfold dS; rw [if_neg c, if_neg d]; exact V1) F1
      · obtain ⟨y1, V3, F3⟩ := y
        refine ⟨y1, ?_⟩
        rw [nI_1]; exact ih h3 (by unfold dS; rw [if_neg c, if_pos d]; exact V3) (F1.tr F3)
    · have V2 := V1.set (k := 8) (j := t) (Or.inr (Or.inr ⟨by decide, by decide, ht10⟩)) (by omega) (-1)
      rw [nI_clamp (by omega)]
      refine e_Va_die_65 hl _ _ v _ _ _ _ _ ⟨fun _ => ⟨V2.kd, _, v_move hl hv V2 ht10 0 (-1), fun o3 h3 y => Or.inl ?_⟩, fun g => absurd g (by decide)⟩
      obtain ⟨y1, V3, F3⟩ := y
      refine ⟨y1, ?_⟩
      rw [nI_1]; exact ih h3 (by unfold dS; rw [if_pos c, if_neg d]; exact V3) ((F1.set ⟨Nat.le_add_right _ _, Nat.add_le_add_left (by decide) _⟩).tr F3)
    · have V2 := V1.set (k := 8) (j := t) (Or.inr (Or.inr ⟨by decide, by decide, ht10⟩)) (by omega) (succF A p)
      rw [nI_clamp (by omega)]
      refine e_Va_die_65 hl _ _ v _ _ _ _ _ ⟨fun _ => ⟨V2.kd, _, v_move hl hv V2 ht10 0 (-1), fun o3 h3 y => Or.inl ?_⟩, fun g => absurd g (by decide)⟩
      obtain ⟨y1, V3, F3⟩ := y
      refine ⟨y1, ?_⟩
      rw [nI_1]; exact ih h3 (by unfold dS; rw [if_pos c, if_pos d]; exact V3) ((F1.set ⟨Nat.le_add_right _ _, Nat.add_le_add_left (by decide) _⟩).tr F3)
theorem v_wakeOrDie (hl : G.1.stackTraces = false) (hv : G.n0 ≤ v) (dj : Dj v la) (V : VlyAt h v A la) (W : Wf A) (L : LawOk G h la T) : EvM G m_Va_wakeOrDie [.ref v] h (vpost v la h (wakeF T A)) := by
  refine en_Va_wakeOrDie h _ v (e_Va_wakeOrDie_0 hl h _ v ?_)
  refine for_up (Q := fun t => ∀ h1, VlyAt h1 v (lp (wakeS T) t A) la → Fs (inV v) h h1 → Ev G m_Va_wakeOrDie 2 [.ref v, .int (nI t)] [] h1 0 0 _) (n := nP A) (fun h1 V1 F1 => ?_) (fun t ht ih h1 V1 F1 => ?_) 0 (Nat.zero_le _) h V Fs.rf
  · obtain ⟨W1, K1⟩ := W.wake' T (nP A) (Nat.le_refl _)
    exact e_Va_wakeOrDie_2 hl h1 _ v _ ⟨_, V1.f0, fun _ => ⟨rfl, V1, F1⟩, fun c => absurd (by have := W1.1.end_P; rw [K1.1] at this; exact this) c⟩
  · obtain ⟨W1, K1⟩ := W.wake' T t (Nat.le_of_lt ht)
    have L1 := dj.keep L F1
    have hp : t < nP (lp (wakeS T) t A) := by rw [K1.1]; exact ht
    generalize hA : lp (wakeS T) t A = A1 at *
    have ih : ∀ h1, VlyAt h1 v (wakeS T t A1) la → Fs (inV v) h h1 → Ev G m_Va_wakeOrDie 2 [.ref v, .int (nI (t + 1))] [] h1 0 0 (vpost v la h (wakeF T A)) := fun h2 V2 F2 => ih h2 (by show VlyAt h2 v (wakeS T t (lp (wakeS T) t A)) la; rw [hA]; exact V2) F2
    have hp7 := W1.1.P7 hp
    have main : A1 5 t = 1 → ∀ h2, VlyAt h2 v (ageF A1 t) la → Fs (inV v) h h2 → Ev G m_Va_wakeOrDie 52 [.ref v, .int (nI t)] [] h2 0 0 (vpost v la h (wakeF T A)) := by
      intro c h2 V2 F2
      obtain ⟨W2, K2⟩ := W1.age1 hp
      have e5 : ageF A1 t 0 5 = A1 0 5 := by unfold ageF; split; exact up_ne (by omega); rfl
      refine e_Va_wakeOrDie_52 hl h2 _ v _ ⟨V2.kd, _, v_draw hl hv V2, fun o3 h3 z => Or.inl ?_⟩
      obtain ⟨z1, V3, F3⟩ := z
      rw [e5] at V3
      have W3 := W2.up0 (j := 5) (by omega) (sdF (A1 0 5))
      have K3 : Kp A1 (up (ageF A1 t) 0 5 (sdF (A1 0 5))) := K2.tr (Kp.up (by omega))
      have hp3 : t < nP (up (ageF A1 t) 0 5 (sdF (A1 0 5))) := by rw [K3.1]; exact hp
      have L3 := dj.keep (dj.keep L F2) F3
      refine ⟨_, z1, by decide, V3.kd, _, v_fails hl V3 W3 L3 hp3, fun f => ?_, fun f => ⟨V3.kd, _, v_die hl hv V3 W3 hp3, fun o4 h4 y => Or.inl ?_⟩⟩
      · rw [nI_1]; refine ih h3 ?_ (F2.tr F3)
        unfold wakeS; rw [if_pos c, if_pos (show failF T (up (ageF A1 t) 0 5 (sdF (A1 0 5))) t ≤ rm (drF (A1 0 5)) 100 by rw [e5] at f; exact f)]; exact V3
      · obtain ⟨y1, V4, F4⟩ := y
        refine ⟨y1, ?_⟩
        rw [nI_1]; refine ih h4 ?_ ((F2.tr F3).tr F4)
        unfold wakeS; rw [if_pos c, if_neg (show ¬ failF T (up (ageF A1 t) 0 5 (sdF (A1 0 5))) t ≤ rm (drF (A1 0 5)) 100 by rw [e5] at f; exact f)]; exact V4
    refine e_Va_wakeOrDie_2 hl h1 _ v _ ⟨_, V1.f0, fun c => absurd c (W1.1.in_P hp), fun _ => ⟨V1.kd, _, v_living hl V1 W1.1 hp, fun c => ⟨_, V1.f12, by decide, fun d => ?_, fun d => ⟨_, V1.r1, _, V1.r1, _, V1.a1 hp7, V1.w1 hv hp7, ?_⟩⟩, fun c => ?_⟩⟩
    · exact main (ite1 c) h1 (by unfold ageF; rw [if_neg (show ¬ rm (A1 0 2) 10 = 9 from d)]; exact V1) F1
    · rw [nI_clamp (by omega)]
      refine main (ite1 c) _ ?_ (F1.set ⟨by omega, by omega⟩)
      unfold ageF; rw [if_pos (show rm (A1 0 2) 10 = 9 from d)]
      exact V1.set (k := 1) (j := t) (Or.inr (Or.inl ⟨by decide, by decide, hp7⟩)) (by omega) _
    · rw [nI_1]; exact ih h1 (by unfold wakeS; rw [if_neg (ite0 c)]; exact V1) F1
theorem V_night (V : VlyAt h v A la) : VlyAt (hset h v 12 (.int (imin (A 0 2 + 1) 9999))) v (nightF A) la := V.set (k := 0) (j := 2) (Or.inl ⟨rfl, by decide⟩) (by omega) _
theorem v_pass (hl : G.1.stackTraces = false) (hv : G.n0 ≤ v) (dj : Dj v la) (V : VlyAt h v A la) (W : Wf A) (L : LawOk G h la T) {n : Nat} (hn : n < 2 ^ 31) : EvM G m_Va_pass [.ref v, .int (nI n)] h (vpostI v la h (passF T n A) (bcF (flagF A 5) - bcF (flagF (passF T n A) 5))) := by
  refine en_Va_pass h _ v _ (e_Va_pass_0 hl h _ v _ ⟨_, V.f5, _, j_bitCount hl _, ?_⟩)
  refine for_up (Q := fun t => ∀ h1, VlyAt h1 v (passF T t A) la → Fs (inV v) h h1 → Ev G m_Va_pass 10 [.ref v, .int (nI n), .int (bcF (flagF A 5)), .int (nI t)] [] h1 0 0 _) (n := n) (fun h1 V1 F1 => ?_) (fun t ht ih h1 V1 F1 => ?_) 0 (Nat.zero_le _) h V Fs.rf
  · exact e_Va_pass_10 hl h1 _ v _ _ _ ⟨fun _ => ⟨_, V1.f5, _, j_bitCount hl _, rfl, V1, F1⟩, fun c => absurd (Int32.le_refl _) c⟩
  · obtain ⟨W1, K1⟩ := W.pass T t
    have L1 := dj.keep L F1
    refine e_Va_pass_10 hl h1 _ v _ _ _ ⟨fun c => absurd c (nI_ge ht hn), fun _ => ⟨V1.kd, _, v_letGo hl hv dj V1 W1 L1, fun o2 h2 z => Or.inl ?_⟩⟩
    obtain ⟨z1, V2, F2⟩ := z
    obtain ⟨W2, K2⟩ := W1.let' T _ (Nat.le_refl _)
    have L2 := dj.keep L1 F2
    refine ⟨z1, V2.kd, _, v_feel hl hv dj V2 W2 L2, fun o3 h3 z => Or.inl ?_⟩
    obtain ⟨z3, V3, F3⟩ := z
    obtain ⟨W3, K3⟩ := W2.feel' T _ (Nat.le_refl _)
    have L3 := dj.keep L2 F3
    refine ⟨z3, V3.kd, _, v_wakeOrDie hl hv dj V3 W3 L3, fun o4 h4 z => Or.inl ?_⟩
    obtain ⟨z4, V4, F4⟩ := z
    refine ⟨z4, _, V4.f12, ⟨hv, V4.kd⟩, e_Va_pass_43 hl _ _ v _ _ _ ?_⟩
    rw [nI_1]
    exact ih _ (V_night V4) ((((F1.tr F2).tr F3).tr F4).set ⟨Nat.le_refl _, by omega⟩)
theorem v_calm (hl : G.1.stackTraces = false) (hv : G.n0 ≤ v) (dj : Dj v la) (V : VlyAt h v A la) (W : Wf A) (L : LawOk G h la T) {n : Nat} (hn : n < 2 ^ 31) : EvM G m_Va_passLettingGo [.ref v, .int (nI n)] h (vpost v la h (calmF T n A)) := by
  refine en_Va_passLettingGo h _ v _ (e_Va_passLettingGo_0 hl h _ v _ ?_)
  refine for_up (Q := fun t => ∀ h1, VlyAt h1 v (calmF T t A) la → Fs (inV v) h h1 → Ev G m_Va_passLettingGo 2 [.ref v, .int (nI n), .int (nI t)] [] h1 0 0 _) (n := n) (fun h1 V1 F1 => ?_) (fun t ht ih h1 V1 F1 => ?_) 0 (Nat.zero_le _) h V Fs.rf
  · exact e_Va_passLettingGo_2 hl h1 _ v _ _ ⟨fun _ => ⟨rfl, V1, F1⟩, fun c => absurd (Int32.le_refl _) c⟩
  · obtain ⟨W1, K1⟩ := W.calm T t
    have L1 := dj.keep L F1
    refine e_Va_passLettingGo_2 hl h1 _ v _ _ ⟨fun c => absurd c (nI_ge ht hn), fun _ => ⟨V1.kd, _, v_letGo hl hv dj V1 W1 L1, fun o2 h2 z => Or.inl ?_⟩⟩
    obtain ⟨z1, V2, F2⟩ := z
    refine ⟨z1, _, V2.f12, ⟨hv, V2.kd⟩, e_Va_passLettingGo_27 hl _ _ v _ _ ?_⟩
    rw [nI_1]
    exact ih _ (V_night V2) ((F1.tr F2).set ⟨Nat.le_refl _, by omega⟩)
end VA3
