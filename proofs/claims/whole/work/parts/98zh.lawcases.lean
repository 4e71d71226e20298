/-! ===== the law's cases (printed by wip/whole/lgen.py) ===== -/
section LWC
variable {G : Gx} {hh : Hd} {h : Hp} {x b L i cs ss : Nat} {tk : Nat → Nat} {xs : Nat → Int32} {S : Ab} {P : Res → Hp → Prop}
theorem k_feed (hl : G.1.stackTraces = false) (hx : G.n0 ≤ x) (hb : b < G.n0) (hL : L ≤ 3072) (hi : i + 6 ≤ L) (C : CS G h x S) (M : MS G h (x + 192) S) (A : AbOk S) (B : LB G x tk b L xs h) (hc : cs + 6 ≤ 601024) (hs : ss + 847 ≤ 7293034) (K : Nx G hh x tk b L xs i cs ss P) : EvH G m_law hh 252 (lc b x i) [] h cs ss P := by
  refine eh_aloadn (i := 1) (j := 1) rfl (by decide +kernel) rfl ?_
  refine la_arg (k := 1) (by decide +kernel) rfl rfl rfl (by omega) hL B ?_
  refine la_arg (k := 2) (by decide +kernel) rfl rfl rfl (by omega) hL B ?_
  refine la_arg (k := 3) (by decide +kernel) rfl rfl rfl (by omega) hL B ?_
  refine la_arg (k := 4) (by decide +kernel) rfl rfl rfl (by omega) hL B ?_
  refine la_arg (k := 5) (by decide +kernel) rfl rfl rfl (by omega) hL B ?_
  obtain ⟨v0, S', iv, A', EC, EM⟩ := j_feed (tk := tk) hl hx (xs (i + 1)) (xs (i + 2)) (xs (i + 3)) (xs (i + 4)) (xs (i + 5)) h S C A B.1 B.2.1
  obtain ⟨y, rfl⟩ : ∃ y, v0 = some (.int y) := iv
  show EvH G m_law hh 283 (lc b x i) (([.int (xs (i + 1)), .int (xs (i + 2)), .int (xs (i + 3)), .int (xs (i + 4)), .int (xs (i + 5))] : List Value).reverse ++ .ref x :: []) h cs ss P
  refine eh_callN (q := m_Gr_feed) (idx := 130) EC (fun E h' z => nomatch z.1) (wd_ok (k := 484) (by decide +kernel)) (wd_ok (k := 481) (by decide +kernel)) (wd_ok (k := 134) (by decide +kernel)) (wd_ok (k := 482) (by decide +kernel)) (wd_ok (k := 483) (by decide +kernel)) (by show plainB _ 5 = true; decide +kernel) (by decide) (by decide) (Or.inl ⟨9, 13, TX11, rfl, C.kd⟩) (by decide) (by decide +kernel) (by show cs + 0 ≤ 601024; omega) (by show ss + 0 ≤ 7293034; omega) (fun v h1 z => ?_)
  obtain ⟨e, g, C1⟩ := z
  cases e
  have M1 := M.gw B.1 g
  have B1 := B.gw hx hb g
  refine eh_aloadn (i := 2) (j := 2) rfl (by decide +kernel) rfl ?_
  refine la_arg (k := 1) (by decide +kernel) rfl rfl rfl (by omega) hL B1 ?_
  refine la_arg (k := 2) (by decide +kernel) rfl rfl rfl (by omega) hL B1 ?_
  refine la_arg (k := 3) (by decide +kernel) rfl rfl rfl (by omega) hL B1 ?_
  refine la_arg (k := 4) (by decide +kernel) rfl rfl rfl (by omega) hL B1 ?_
  refine la_arg (k := 5) (by decide +kernel) rfl rfl rfl (by omega) hL B1 ?_
  show EvH G m_law hh 317 (lc b x i) (([.int (xs (i + 1)), .int (xs (i + 2)), .int (xs (i + 3)), .int (xs (i + 4)), .int (xs (i + 5))] : List Value).reverse ++ .ref (x + 192) :: [.int y]) h1 (cs + 0) (ss + 0) P
  refine eh_callN (q := m_Mo_feed) (idx := 134) (EM h1 M1 B1.2.1 B1.2.2.1) (fun E h' z => nomatch z.1) (wd_ok (k := 1678) (by decide +kernel)) (wd_ok (k := 1675) (by decide +kernel)) (wd_ok (k := 144) (by decide +kernel)) (wd_ok (k := 1676) (by decide +kernel)) (wd_ok (k := 1677) (by decide +kernel)) (by show plainB _ 5 = true; decide +kernel) (by decide) (by decide) (Or.inl ⟨10, 25, TX12, rfl, M1.kd⟩) (by show 1 ≤ 8; decide) (by decide +kernel) (by show cs + 0 + 0 ≤ 601024; omega) (by show ss + 0 + 0 ≤ 7293034; omega) (fun v h2 z => ?_)
  obtain ⟨e, F, M2⟩ := z
  cases e
  exact eh_icmp_eq (off := 2300) (tgt := 2620) (by decide +kernel) rfl (fun _ => K h2 S' _ _ (C1.fs F) M2 A' (B1.fs hx hb F) (by show cs + 0 + 0 ≤ cs + 6; omega) (by show ss + 0 + 0 ≤ ss + 847; omega)) (fun n => absurd rfl n)
theorem k_end (hl : G.1.stackTraces = false) (hx : G.n0 ≤ x) (hb : b < G.n0) (hL : L ≤ 3072) (hi : i + 6 ≤ L) (C : CS G h x S) (M : MS G h (x + 192) S) (A : AbOk S) (B : LB G x tk b L xs h) (hc : cs + 6 ≤ 601024) (hs : ss + 847 ≤ 7293034) (K : Nx G hh x tk b L xs i cs ss P) : EvH G m_law hh 325 (lc b x i) [] h cs ss P := by
  refine eh_aloadn (i := 1) (j := 1) rfl (by decide +kernel) rfl ?_
  refine la_arg (k := 1) (by decide +kernel) rfl rfl rfl (by omega) hL B ?_
  obtain ⟨v0, S', iv, A', EC, EM⟩ := j_end (tk := tk) hl hx (xs (i + 1)) h S C A B.1 B.2.1
  obtain ⟨y, rfl⟩ : ∃ y, v0 = some (.int y) := iv
  show EvH G m_law hh 332 (lc b x i) (([.int (xs (i + 1))] : List Value).reverse ++ .ref x :: []) h cs ss P
  refine eh_callN (q := m_Gr_end) (idx := 135) EC (fun E h' z => nomatch z.1) (wd_ok (k := 496) (by decide +kernel)) (wd_ok (k := 493) (by decide +kernel)) (wd_ok (k := 134) (by decide +kernel)) (wd_ok (k := 494) (by decide +kernel)) (wd_ok (k := 495) (by decide +kernel)) (by show plainB _ 1 = true; decide +kernel) (by decide) (by decide) (Or.inl ⟨9, 13, TX11, rfl, C.kd⟩) (by decide) (by decide +kernel) (by show cs + 0 ≤ 601024; omega) (by show ss + 0 ≤ 7293034; omega) (fun v h1 z => ?_)
  obtain ⟨e, g, C1⟩ := z
  cases e
  have M1 := M.gw B.1 g
  have B1 := B.gw hx hb g
  refine eh_aloadn (i := 2) (j := 2) rfl (by decide +kernel) rfl ?_
  refine la_arg (k := 1) (by decide +kernel) rfl rfl rfl (by omega) hL B1 ?_
  show EvH G m_law hh 342 (lc b x i) (([.int (xs (i + 1))] : List Value).reverse ++ .ref (x + 192) :: [.int y]) h1 (cs + 0) (ss + 0) P
  refine eh_callN (q := m_Mo_end) (idx := 138) (EM h1 M1 B1.2.1 B1.2.2.1) (fun E h' z => nomatch z.1) (wd_ok (k := 1682) (by decide +kernel)) (wd_ok (k := 1679) (by decide +kernel)) (wd_ok (k := 144) (by decide +kernel)) (wd_ok (k := 1680) (by decide +kernel)) (wd_ok (k := 1681) (by decide +kernel)) (by show plainB _ 1 = true; decide +kernel) (by decide) (by decide) (Or.inl ⟨10, 25, TX12, rfl, M1.kd⟩) (by show 1 ≤ 8; decide) (by decide +kernel) (by show cs + 0 + 0 ≤ 601024; omega) (by show ss + 0 + 0 ≤ 7293034; omega) (fun v h2 z => ?_)
  obtain ⟨e, F, M2⟩ := z
  cases e
  exact eh_icmp_eq (off := 2275) (tgt := 2620) (by decide +kernel) rfl (fun _ => K h2 S' _ _ (C1.fs F) M2 A' (B1.fs hx hb F) (by show cs + 0 + 0 ≤ cs + 6; omega) (by show ss + 0 + 0 ≤ ss + 847; omega)) (fun n => absurd rfl n)
theorem k_valley (hl : G.1.stackTraces = false) (hx : G.n0 ≤ x) (hb : b < G.n0) (hL : L ≤ 3072) (hi : i + 6 ≤ L) (C : CS G h x S) (M : MS G h (x + 192) S) (A : AbOk S) (B : LB G x tk b L xs h) (hc : cs + 6 ≤ 601024) (hs : ss + 847 ≤ 7293034) (K : Nx G hh x tk b L xs i cs ss P) : EvH G m_law hh 350 (lc b x i) [] h cs ss P := by
  refine eh_aloadn (i := 1) (j := 1) rfl (by decide +kernel) rfl ?_
  obtain ⟨q, S', kq, A', EC, EM⟩ := j_valley (tk := tk) hl hx h S C A B.1 B.2.1
  refine eh_aloadn (i := 3) (j := 3) rfl (by decide +kernel) rfl ?_
  show EvH G m_law hh 352 (lc b x i) (([.ref x, .ref (x + 208)] : List Value).reverse ++ []) h cs ss P
  refine eh_callS (q := m_Lw_valley) (hq := hh_Lw_valley) (idx := 139) (h_Lw_valley (out := x + 208) EC C.kd (by omega) (fun v h' z => cc_v B z) (fun E h' z => by have w := cc_in kq z; simp only [cs_Lw_valley, List.mem_cons, List.not_mem_nil, or_false, Prod.mk.injEq] at w; exact w.imp (·.1) (·.1))) (fun E h' => hq_no E h') (wd_ok (k := 626) (by decide +kernel)) (wd_ok (k := 624) (by decide +kernel)) (wd_ok (k := 133) (by decide +kernel)) (wd_ok (k := 625) (by decide +kernel)) (by show plainB _ 2 = true; decide +kernel) (by decide) (by decide) (by decide) (by decide +kernel) (by show cs + 2 ≤ 601024; omega) (by show ss + 12 ≤ 7293034; omega) (fun v h1 z => ?_)
  obtain ⟨e, C1, M1, B1, w1⟩ := mid hx hb kq M B z
  cases e
  refine eh_istore (i := 5) (by decide +kernel) (by decide) ?_
  refine eh_aloadn (i := 2) (j := 2) rfl (by decide +kernel) rfl ?_
  show EvH G m_law hh 358 ((lc b x i).set 5 (.int q.1)) (([] : List Value).reverse ++ .ref (x + 192) :: []) h1 (cs + 2) (ss + 12) P
  refine eh_callN (q := m_Mo_valley) (idx := 144) (EM h1 M1 B1.2.1 B1.2.2.1) (fun E h' => mm_no E h') (wd_ok (k := 1690) (by decide +kernel)) (wd_ok (k := 1687) (by decide +kernel)) (wd_ok (k := 144) (by decide +kernel)) (wd_ok (k := 1688) (by decide +kernel)) (wd_ok (k := 1689) (by decide +kernel)) (by show plainB _ 0 = true; decide +kernel) (by decide) (by decide) (Or.inl ⟨10, 25, TX12, rfl, M1.kd⟩) (by decide) (by decide +kernel) (by show cs + 2 + 0 ≤ 601024; omega) (by show ss + 12 + 0 ≤ 7293034; omega) (fun v h2 z => ?_)
  obtain ⟨e, t0, F, M2⟩ := z
  cases e
  have w2 : h2.2.1 (x + 208) 0 = h1.2.1 (x + 208) 0 := F.2.2 _ _ (by unfold mZ; omega)
  refine eh_istore (i := 6) (by decide +kernel) (by decide) ?_
  exact la_tail (p := 363) (off := 2229) hl (by decide +kernel) (by decide) M2 (B1.fs hx hb F) t0 (fun c => by rw [w2]; exact w1 c) (by show cs + 2 + 0 ≤ 601024; omega) (by show ss + 12 + 0 ≤ 7293034; omega) (K h2 S' _ _ (C1.fs F) M2 A' (B1.fs hx hb F) (by show cs + 2 + 0 ≤ cs + 6; omega) (by show ss + 12 + 0 ≤ ss + 847; omega))
theorem k_law (hl : G.1.stackTraces = false) (hx : G.n0 ≤ x) (hb : b < G.n0) (hL : L ≤ 3072) (hi : i + 6 ≤ L) (C : CS G h x S) (M : MS G h (x + 192) S) (A : AbOk S) (B : LB G x tk b L xs h) (hc : cs + 6 ≤ 601024) (hs : ss + 847 ≤ 7293034) (K : Nx G hh x tk b L xs i cs ss P) : EvH G m_law hh 394 (lc b x i) [] h cs ss P := by
  refine eh_aloadn (i := 1) (j := 1) rfl (by decide +kernel) rfl ?_
  obtain ⟨q, S', kq, A', EC, EM⟩ := j_law (tk := tk) hl hx h S C A B.1 B.2.1
  refine eh_aloadn (i := 3) (j := 3) rfl (by decide +kernel) rfl ?_
  show EvH G m_law hh 396 (lc b x i) (([.ref x, .ref (x + 208)] : List Value).reverse ++ []) h cs ss P
  refine eh_callS (q := m_Lw_law) (hq := hh_Lw_law) (idx := 148) (h_Lw_law (out := x + 208) EC C.kd (by omega) (fun v h' z => cc_v B z) (fun E h' z => by have w := cc_in kq z; simp only [cs_Lw_law, List.mem_cons, List.not_mem_nil, or_false, Prod.mk.injEq] at w; exact w.1)) (fun E h' => hq_no E h') (wd_ok (k := 920) (by decide +kernel)) (wd_ok (k := 918) (by decide +kernel)) (wd_ok (k := 133) (by decide +kernel)) (wd_ok (k := 919) (by decide +kernel)) (by show plainB _ 2 = true; decide +kernel) (by decide) (by decide) (by decide) (by decide +kernel) (by show cs + 6 ≤ 601024; omega) (by show ss + 847 ≤ 7293034; omega) (fun v h1 z => ?_)
  obtain ⟨e, C1, M1, B1, w1⟩ := mid hx hb kq M B z
  cases e
  refine eh_istore (i := 5) (by decide +kernel) (by decide) ?_
  refine eh_aloadn (i := 2) (j := 2) rfl (by decide +kernel) rfl ?_
  show EvH G m_law hh 402 ((lc b x i).set 5 (.int q.1)) (([] : List Value).reverse ++ .ref (x + 192) :: []) h1 (cs + 6) (ss + 847) P
  refine eh_callN (q := m_Mo_law) (idx := 150) (EM h1 M1 B1.2.1 B1.2.2.1) (fun E h' => mm_no E h') (wd_ok (k := 1880) (by decide +kernel)) (wd_ok (k := 1877) (by decide +kernel)) (wd_ok (k := 144) (by decide +kernel)) (wd_ok (k := 1878) (by decide +kernel)) (wd_ok (k := 1879) (by decide +kernel)) (by show plainB _ 0 = true; decide +kernel) (by decide) (by decide) (Or.inl ⟨10, 25, TX12, rfl, M1.kd⟩) (by decide) (by decide +kernel) (by show cs + 6 + 0 ≤ 601024; omega) (by show ss + 847 + 0 ≤ 7293034; omega) (fun v h2 z => ?_)
  obtain ⟨e, t0, F, M2⟩ := z
  cases e
  have w2 : h2.2.1 (x + 208) 0 = h1.2.1 (x + 208) 0 := F.2.2 _ _ (by unfold mZ; omega)
  refine eh_istore (i := 6) (by decide +kernel) (by decide) ?_
  exact la_tail (p := 407) (off := 2185) hl (by decide +kernel) (by decide) M2 (B1.fs hx hb F) t0 (fun c => by rw [w2]; exact w1 c) (by show cs + 6 + 0 ≤ 601024; omega) (by show ss + 847 + 0 ≤ 7293034; omega) (K h2 S' _ _ (C1.fs F) M2 A' (B1.fs hx hb F) (by show cs + 6 + 0 ≤ cs + 6; omega) (by show ss + 847 + 0 ≤ ss + 847; omega))
theorem k_fault (hl : G.1.stackTraces = false) (hx : G.n0 ≤ x) (hb : b < G.n0) (hL : L ≤ 3072) (hi : i + 6 ≤ L) (C : CS G h x S) (M : MS G h (x + 192) S) (A : AbOk S) (B : LB G x tk b L xs h) (hc : cs + 6 ≤ 601024) (hs : ss + 847 ≤ 7293034) (K : Nx G hh x tk b L xs i cs ss P) : EvH G m_law hh 438 (lc b x i) [] h cs ss P := by
  refine eh_aloadn (i := 1) (j := 1) rfl (by decide +kernel) rfl ?_
  obtain ⟨v0, S', iv, A', EC, EM⟩ := j_fault (tk := tk) hl hx h S C A B.1 B.2.1
  obtain ⟨y, rfl⟩ : ∃ y, v0 = some (.int y) := iv
  show EvH G m_law hh 439 (lc b x i) (([] : List Value).reverse ++ .ref x :: []) h cs ss P
  refine eh_callN (q := m_Gr_fault) (idx := 151) EC (fun E h' z => nomatch z.1) (wd_ok (k := 504) (by decide +kernel)) (wd_ok (k := 501) (by decide +kernel)) (wd_ok (k := 134) (by decide +kernel)) (wd_ok (k := 502) (by decide +kernel)) (wd_ok (k := 503) (by decide +kernel)) (by show plainB _ 0 = true; decide +kernel) (by decide) (by decide) (Or.inl ⟨9, 13, TX11, rfl, C.kd⟩) (by decide) (by decide +kernel) (by show cs + 0 ≤ 601024; omega) (by show ss + 0 ≤ 7293034; omega) (fun v h1 z => ?_)
  obtain ⟨e, g, C1⟩ := z
  cases e
  have M1 := M.gw B.1 g
  have B1 := B.gw hx hb g
  refine eh_aloadn (i := 2) (j := 2) rfl (by decide +kernel) rfl ?_
  show EvH G m_law hh 443 (lc b x i) (([] : List Value).reverse ++ .ref (x + 192) :: [.int y]) h1 (cs + 0) (ss + 0) P
  refine eh_callN (q := m_Mo_fault) (idx := 154) (EM h1 M1 B1.2.1 B1.2.2.1) (fun E h' z => nomatch z.1) (wd_ok (k := 1686) (by decide +kernel)) (wd_ok (k := 1683) (by decide +kernel)) (wd_ok (k := 144) (by decide +kernel)) (wd_ok (k := 1684) (by decide +kernel)) (wd_ok (k := 1685) (by decide +kernel)) (by show plainB _ 0 = true; decide +kernel) (by decide) (by decide) (Or.inl ⟨10, 25, TX12, rfl, M1.kd⟩) (by show 1 ≤ 8; decide) (by decide +kernel) (by show cs + 0 + 0 ≤ 601024; omega) (by show ss + 0 + 0 ≤ 7293034; omega) (fun v h2 z => ?_)
  obtain ⟨e, F, M2⟩ := z
  cases e
  exact eh_icmp_eq (off := 2174) (tgt := 2620) (by decide +kernel) rfl (fun _ => K h2 S' _ _ (C1.fs F) M2 A' (B1.fs hx hb F) (by show cs + 0 + 0 ≤ cs + 6; omega) (by show ss + 0 + 0 ≤ ss + 847; omega)) (fun n => absurd rfl n)
theorem k_person (hl : G.1.stackTraces = false) (hx : G.n0 ≤ x) (hb : b < G.n0) (hL : L ≤ 3072) (hi : i + 6 ≤ L) (C : CS G h x S) (M : MS G h (x + 192) S) (A : AbOk S) (B : LB G x tk b L xs h) (hc : cs + 6 ≤ 601024) (hs : ss + 847 ≤ 7293034) (K : Nx G hh x tk b L xs i cs ss P) : EvH G m_law hh 451 (lc b x i) [] h cs ss P := by
  refine eh_aloadn (i := 1) (j := 1) rfl (by decide +kernel) rfl ?_
  refine la_arg (k := 1) (by decide +kernel) rfl rfl rfl (by omega) hL B ?_
  refine la_arg (k := 2) (by decide +kernel) rfl rfl rfl (by omega) hL B ?_
  obtain ⟨q, S', kq, A', EC, EM⟩ := j_person (tk := tk) hl hx (xs (i + 1)) (xs (i + 2)) h S C A B.1 B.2.1
  refine eh_aloadn (i := 3) (j := 3) rfl (by decide +kernel) rfl ?_
  show EvH G m_law hh 465 (lc b x i) (([.ref x, .int (xs (i + 1)), .int (xs (i + 2)), .ref (x + 208)] : List Value).reverse ++ []) h cs ss P
  refine eh_callS (q := m_Lw_person) (hq := hh_Lw_person) (idx := 155) (h_Lw_person (out := x + 208) EC C.kd (by omega) (fun v h' z => cc_v B z) (fun E h' z => by have w := cc_in kq z; simp only [cs_Lw_person, List.mem_cons, List.not_mem_nil, or_false, Prod.mk.injEq] at w; exact w.imp (·.1) (·.1))) (fun E h' => hq_no E h') (wd_ok (k := 1016) (by decide +kernel)) (wd_ok (k := 1014) (by decide +kernel)) (wd_ok (k := 133) (by decide +kernel)) (wd_ok (k := 1015) (by decide +kernel)) (by show plainB _ 4 = true; decide +kernel) (by decide) (by decide) (by decide) (by decide +kernel) (by show cs + 2 ≤ 601024; omega) (by show ss + 12 ≤ 7293034; omega) (fun v h1 z => ?_)
  obtain ⟨e, C1, M1, B1, w1⟩ := mid hx hb kq M B z
  cases e
  refine eh_istore (i := 5) (by decide +kernel) (by decide) ?_
  refine eh_aloadn (i := 2) (j := 2) rfl (by decide +kernel) rfl ?_
  refine la_arg (k := 1) (by decide +kernel) rfl rfl rfl (by omega) hL B1 ?_
  refine la_arg (k := 2) (by decide +kernel) rfl rfl rfl (by omega) hL B1 ?_
  show EvH G m_law hh 483 ((lc b x i).set 5 (.int q.1)) (([.int (xs (i + 1)), .int (xs (i + 2))] : List Value).reverse ++ .ref (x + 192) :: []) h1 (cs + 2) (ss + 12) P
  refine eh_callN (q := m_Mo_person) (idx := 158) (EM h1 M1 B1.2.1 B1.2.2.1) (fun E h' => mm_no E h') (wd_ok (k := 1884) (by decide +kernel)) (wd_ok (k := 1881) (by decide +kernel)) (wd_ok (k := 144) (by decide +kernel)) (wd_ok (k := 1882) (by decide +kernel)) (wd_ok (k := 1883) (by decide +kernel)) (by show plainB _ 2 = true; decide +kernel) (by decide) (by decide) (Or.inl ⟨10, 25, TX12, rfl, M1.kd⟩) (by decide) (by decide +kernel) (by show cs + 2 + 0 ≤ 601024; omega) (by show ss + 12 + 0 ≤ 7293034; omega) (fun v h2 z => ?_)
  obtain ⟨e, t0, F, M2⟩ := z
  cases e
  have w2 : h2.2.1 (x + 208) 0 = h1.2.1 (x + 208) 0 := F.2.2 _ _ (by unfold mZ; omega)
  refine eh_istore (i := 6) (by decide +kernel) (by decide) ?_
  exact la_tail (p := 488) (off := 2104) hl (by decide +kernel) (by decide) M2 (B1.fs hx hb F) t0 (fun c => by rw [w2]; exact w1 c) (by show cs + 2 + 0 ≤ 601024; omega) (by show ss + 12 + 0 ≤ 7293034; omega) (K h2 S' _ _ (C1.fs F) M2 A' (B1.fs hx hb F) (by show cs + 2 + 0 ≤ cs + 6; omega) (by show ss + 12 + 0 ≤ ss + 847; omega))
theorem k_thing (hl : G.1.stackTraces = false) (hx : G.n0 ≤ x) (hb : b < G.n0) (hL : L ≤ 3072) (hi : i + 6 ≤ L) (C : CS G h x S) (M : MS G h (x + 192) S) (A : AbOk S) (B : LB G x tk b L xs h) (hc : cs + 6 ≤ 601024) (hs : ss + 847 ≤ 7293034) (K : Nx G hh x tk b L xs i cs ss P) : EvH G m_law hh 519 (lc b x i) [] h cs ss P := by
  refine eh_aloadn (i := 1) (j := 1) rfl (by decide +kernel) rfl ?_
  refine la_arg (k := 1) (by decide +kernel) rfl rfl rfl (by omega) hL B ?_
  refine la_arg (k := 2) (by decide +kernel) rfl rfl rfl (by omega) hL B ?_
  obtain ⟨q, S', kq, A', EC, EM⟩ := j_thing (tk := tk) hl hx (xs (i + 1)) (xs (i + 2)) h S C A B.1 B.2.1
  refine eh_aloadn (i := 3) (j := 3) rfl (by decide +kernel) rfl ?_
  show EvH G m_law hh 533 (lc b x i) (([.ref x, .int (xs (i + 1)), .int (xs (i + 2)), .ref (x + 208)] : List Value).reverse ++ []) h cs ss P
  refine eh_callS (q := m_Lw_thing) (hq := hh_Lw_thing) (idx := 159) (h_Lw_thing (out := x + 208) EC C.kd (by omega) (fun v h' z => cc_v B z) (fun E h' z => by have w := cc_in kq z; simp only [cs_Lw_thing, List.mem_cons, List.not_mem_nil, or_false, Prod.mk.injEq] at w; exact w.imp (·.1) (·.1))) (fun E h' => hq_no E h') (wd_ok (k := 1138) (by decide +kernel)) (wd_ok (k := 1136) (by decide +kernel)) (wd_ok (k := 133) (by decide +kernel)) (wd_ok (k := 1137) (by decide +kernel)) (by show plainB _ 4 = true; decide +kernel) (by decide) (by decide) (by decide) (by decide +kernel) (by show cs + 2 ≤ 601024; omega) (by show ss + 12 ≤ 7293034; omega) (fun v h1 z => ?_)
  obtain ⟨e, C1, M1, B1, w1⟩ := mid hx hb kq M B z
  cases e
  refine eh_istore (i := 5) (by decide +kernel) (by decide) ?_
  refine eh_aloadn (i := 2) (j := 2) rfl (by decide +kernel) rfl ?_
  refine la_arg (k := 1) (by decide +kernel) rfl rfl rfl (by omega) hL B1 ?_
  refine la_arg (k := 2) (by decide +kernel) rfl rfl rfl (by omega) hL B1 ?_
  show EvH G m_law hh 551 ((lc b x i).set 5 (.int q.1)) (([.int (xs (i + 1)), .int (xs (i + 2))] : List Value).reverse ++ .ref (x + 192) :: []) h1 (cs + 2) (ss + 12) P
  refine eh_callN (q := m_Mo_thing) (idx := 161) (EM h1 M1 B1.2.1 B1.2.2.1) (fun E h' => mm_no E h') (wd_ok (k := 1981) (by decide +kernel)) (wd_ok (k := 1978) (by decide +kernel)) (wd_ok (k := 144) (by decide +kernel)) (wd_ok (k := 1979) (by decide +kernel)) (wd_ok (k := 1980) (by decide +kernel)) (by show plainB _ 2 = true; decide +kernel) (by decide) (by decide) (Or.inl ⟨10, 25, TX12, rfl, M1.kd⟩) (by decide) (by decide +kernel) (by show cs + 2 + 0 ≤ 601024; omega) (by show ss + 12 + 0 ≤ 7293034; omega) (fun v h2 z => ?_)
  obtain ⟨e, t0, F, M2⟩ := z
  cases e
  have w2 : h2.2.1 (x + 208) 0 = h1.2.1 (x + 208) 0 := F.2.2 _ _ (by unfold mZ; omega)
  refine eh_istore (i := 6) (by decide +kernel) (by decide) ?_
  exact la_tail (p := 556) (off := 2036) hl (by decide +kernel) (by decide) M2 (B1.fs hx hb F) t0 (fun c => by rw [w2]; exact w1 c) (by show cs + 2 + 0 ≤ 601024; omega) (by show ss + 12 + 0 ≤ 7293034; omega) (K h2 S' _ _ (C1.fs F) M2 A' (B1.fs hx hb F) (by show cs + 2 + 0 ≤ cs + 6; omega) (by show ss + 12 + 0 ≤ ss + 847; omega))
theorem k_shuts (hl : G.1.stackTraces = false) (hx : G.n0 ≤ x) (hb : b < G.n0) (hL : L ≤ 3072) (hi : i + 6 ≤ L) (C : CS G h x S) (M : MS G h (x + 192) S) (A : AbOk S) (B : LB G x tk b L xs h) (hc : cs + 6 ≤ 601024) (hs : ss + 847 ≤ 7293034) (K : Nx G hh x tk b L xs i cs ss P) : EvH G m_law hh 587 (lc b x i) [] h cs ss P := by
  refine eh_aloadn (i := 1) (j := 1) rfl (by decide +kernel) rfl ?_
  refine la_arg (k := 1) (by decide +kernel) rfl rfl rfl (by omega) hL B ?_
  refine la_arg (k := 2) (by decide +kernel) rfl rfl rfl (by omega) hL B ?_
  obtain ⟨q, S', kq, A', EC, EM⟩ := j_shuts (tk := tk) hl hx (xs (i + 1)) (xs (i + 2)) h S C A B.1 B.2.1
  refine eh_aloadn (i := 3) (j := 3) rfl (by decide +kernel) rfl ?_
  show EvH G m_law hh 601 (lc b x i) (([.ref x, .int (xs (i + 1)), .int (xs (i + 2)), .ref (x + 208)] : List Value).reverse ++ []) h cs ss P
  refine eh_callS (q := m_Lw_shuts) (hq := hh_Lw_shuts) (idx := 162) (h_Lw_shuts (out := x + 208) EC C.kd (by omega) (fun v h' z => cc_v B z) (fun E h' z => by have w := cc_in kq z; simp only [cs_Lw_shuts, List.mem_cons, List.not_mem_nil, or_false, Prod.mk.injEq] at w; exact w.1)) (fun E h' => hq_no E h') (wd_ok (k := 1153) (by decide +kernel)) (wd_ok (k := 1151) (by decide +kernel)) (wd_ok (k := 133) (by decide +kernel)) (wd_ok (k := 1152) (by decide +kernel)) (by show plainB _ 4 = true; decide +kernel) (by decide) (by decide) (by decide) (by decide +kernel) (by show cs + 2 ≤ 601024; omega) (by show ss + 12 ≤ 7293034; omega) (fun v h1 z => ?_)
  obtain ⟨e, C1, M1, B1, w1⟩ := mid hx hb kq M B z
  cases e
  refine eh_istore (i := 5) (by decide +kernel) (by decide) ?_
  refine eh_aloadn (i := 2) (j := 2) rfl (by decide +kernel) rfl ?_
  refine la_arg (k := 1) (by decide +kernel) rfl rfl rfl (by omega) hL B1 ?_
  refine la_arg (k := 2) (by decide +kernel) rfl rfl rfl (by omega) hL B1 ?_
  show EvH G m_law hh 619 ((lc b x i).set 5 (.int q.1)) (([.int (xs (i + 1)), .int (xs (i + 2))] : List Value).reverse ++ .ref (x + 192) :: []) h1 (cs + 2) (ss + 12) P
  refine eh_callN (q := m_Mo_shuts) (idx := 164) (EM h1 M1 B1.2.1 B1.2.2.1) (fun E h' => mm_no E h') (wd_ok (k := 1989) (by decide +kernel)) (wd_ok (k := 1986) (by decide +kernel)) (wd_ok (k := 144) (by decide +kernel)) (wd_ok (k := 1987) (by decide +kernel)) (wd_ok (k := 1988) (by decide +kernel)) (by show plainB _ 2 = true; decide +kernel) (by decide) (by decide) (Or.inl ⟨10, 25, TX12, rfl, M1.kd⟩) (by decide) (by decide +kernel) (by show cs + 2 + 0 ≤ 601024; omega) (by show ss + 12 + 0 ≤ 7293034; omega) (fun v h2 z => ?_)
  obtain ⟨e, t0, F, M2⟩ := z
  cases e
  have w2 : h2.2.1 (x + 208) 0 = h1.2.1 (x + 208) 0 := F.2.2 _ _ (by unfold mZ; omega)
  refine eh_istore (i := 6) (by decide +kernel) (by decide) ?_
  exact la_tail (p := 624) (off := 1968) hl (by decide +kernel) (by decide) M2 (B1.fs hx hb F) t0 (fun c => by rw [w2]; exact w1 c) (by show cs + 2 + 0 ≤ 601024; omega) (by show ss + 12 + 0 ≤ 7293034; omega) (K h2 S' _ _ (C1.fs F) M2 A' (B1.fs hx hb F) (by show cs + 2 + 0 ≤ cs + 6; omega) (by show ss + 12 + 0 ≤ ss + 847; omega))
theorem k_nights (hl : G.1.stackTraces = false) (hx : G.n0 ≤ x) (hb : b < G.n0) (hL : L ≤ 3072) (hi : i + 6 ≤ L) (C : CS G h x S) (M : MS G h (x + 192) S) (A : AbOk S) (B : LB G x tk b L xs h) (hc : cs + 6 ≤ 601024) (hs : ss + 847 ≤ 7293034) (K : Nx G hh x tk b L xs i cs ss P) : EvH G m_law hh 655 (lc b x i) [] h cs ss P := by
  refine eh_aloadn (i := 1) (j := 1) rfl (by decide +kernel) rfl ?_
  refine la_arg (k := 1) (by decide +kernel) rfl rfl rfl (by omega) hL B ?_
  obtain ⟨q, S', kq, A', EC, EM⟩ := j_nights (tk := tk) hl hx (xs (i + 1)) h S C A B.1 B.2.1
  refine eh_aloadn (i := 3) (j := 3) rfl (by decide +kernel) rfl ?_
  show EvH G m_law hh 663 (lc b x i) (([.ref x, .int (xs (i + 1)), .ref (x + 208)] : List Value).reverse ++ []) h cs ss P
  refine eh_callS (q := m_Lw_nights) (hq := hh_Lw_nights) (idx := 165) (h_Lw_nights (out := x + 208) EC C.kd (by omega) (fun v h' z => cc_v B z) (fun E h' z => by have w := cc_in kq z; simp only [cs_Lw_nights, List.mem_cons, List.not_mem_nil, or_false, Prod.mk.injEq] at w; exact w.1)) (fun E h' => hq_no E h') (wd_ok (k := 1168) (by decide +kernel)) (wd_ok (k := 1166) (by decide +kernel)) (wd_ok (k := 133) (by decide +kernel)) (wd_ok (k := 1167) (by decide +kernel)) (by show plainB _ 3 = true; decide +kernel) (by decide) (by decide) (by decide) (by decide +kernel) (by show cs + 1 ≤ 601024; omega) (by show ss + 6 ≤ 7293034; omega) (fun v h1 z => ?_)
  obtain ⟨e, C1, M1, B1, w1⟩ := mid hx hb kq M B z
  cases e
  refine eh_istore (i := 5) (by decide +kernel) (by decide) ?_
  refine eh_aloadn (i := 2) (j := 2) rfl (by decide +kernel) rfl ?_
  refine la_arg (k := 1) (by decide +kernel) rfl rfl rfl (by omega) hL B1 ?_
  show EvH G m_law hh 675 ((lc b x i).set 5 (.int q.1)) (([.int (xs (i + 1))] : List Value).reverse ++ .ref (x + 192) :: []) h1 (cs + 1) (ss + 6) P
  refine eh_callN (q := m_Mo_nights) (idx := 168) (EM h1 M1 B1.2.1 B1.2.2.1) (fun E h' => mm_no E h') (wd_ok (k := 1997) (by decide +kernel)) (wd_ok (k := 1994) (by decide +kernel)) (wd_ok (k := 144) (by decide +kernel)) (wd_ok (k := 1995) (by decide +kernel)) (wd_ok (k := 1996) (by decide +kernel)) (by show plainB _ 1 = true; decide +kernel) (by decide) (by decide) (Or.inl ⟨10, 25, TX12, rfl, M1.kd⟩) (by decide) (by decide +kernel) (by show cs + 1 + 0 ≤ 601024; omega) (by show ss + 6 + 0 ≤ 7293034; omega) (fun v h2 z => ?_)
  obtain ⟨e, t0, F, M2⟩ := z
  cases e
  have w2 : h2.2.1 (x + 208) 0 = h1.2.1 (x + 208) 0 := F.2.2 _ _ (by unfold mZ; omega)
  refine eh_istore (i := 6) (by decide +kernel) (by decide) ?_
  exact la_tail (p := 680) (off := 1912) hl (by decide +kernel) (by decide) M2 (B1.fs hx hb F) t0 (fun c => by rw [w2]; exact w1 c) (by show cs + 1 + 0 ≤ 601024; omega) (by show ss + 6 + 0 ≤ 7293034; omega) (K h2 S' _ _ (C1.fs F) M2 A' (B1.fs hx hb F) (by show cs + 1 + 0 ≤ cs + 6; omega) (by show ss + 6 + 0 ≤ ss + 847; omega))
theorem k_lay (hl : G.1.stackTraces = false) (hx : G.n0 ≤ x) (hb : b < G.n0) (hL : L ≤ 3072) (hi : i + 6 ≤ L) (C : CS G h x S) (M : MS G h (x + 192) S) (A : AbOk S) (B : LB G x tk b L xs h) (hc : cs + 6 ≤ 601024) (hs : ss + 847 ≤ 7293034) (K : Nx G hh x tk b L xs i cs ss P) : EvH G m_law hh 711 (lc b x i) [] h cs ss P := by
  refine eh_aloadn (i := 1) (j := 1) rfl (by decide +kernel) rfl ?_
  refine la_arg (k := 1) (by decide +kernel) rfl rfl rfl (by omega) hL B ?_
  refine la_arg (k := 2) (by decide +kernel) rfl rfl rfl (by omega) hL B ?_
  obtain ⟨q, S', kq, A', EC, EM⟩ := j_lay (tk := tk) hl hx (xs (i + 1)) (xs (i + 2)) h S C A B.1 B.2.1
  refine eh_aloadn (i := 3) (j := 3) rfl (by decide +kernel) rfl ?_
  show EvH G m_law hh 725 (lc b x i) (([.ref x, .int (xs (i + 1)), .int (xs (i + 2)), .ref (x + 208)] : List Value).reverse ++ []) h cs ss P
  refine eh_callS (q := m_Lw_lay) (hq := hh_Lw_lay) (idx := 169) (h_Lw_lay (out := x + 208) EC C.kd (by omega) (fun v h' z => cc_v B z) (fun E h' z => by have w := cc_in kq z; simp only [cs_Lw_lay, List.mem_cons, List.not_mem_nil, or_false, Prod.mk.injEq] at w; exact w.imp (·.1) (·.1))) (fun E h' => hq_no E h') (wd_ok (k := 1218) (by decide +kernel)) (wd_ok (k := 1216) (by decide +kernel)) (wd_ok (k := 133) (by decide +kernel)) (wd_ok (k := 1217) (by decide +kernel)) (by show plainB _ 4 = true; decide +kernel) (by decide) (by decide) (by decide) (by decide +kernel) (by show cs + 3 ≤ 601024; omega) (by show ss + 18 ≤ 7293034; omega) (fun v h1 z => ?_)
  obtain ⟨e, C1, M1, B1, w1⟩ := mid hx hb kq M B z
  cases e
  refine eh_istore (i := 5) (by decide +kernel) (by decide) ?_
  refine eh_aloadn (i := 2) (j := 2) rfl (by decide +kernel) rfl ?_
  refine la_arg (k := 1) (by decide +kernel) rfl rfl rfl (by omega) hL B1 ?_
  refine la_arg (k := 2) (by decide +kernel) rfl rfl rfl (by omega) hL B1 ?_
  show EvH G m_law hh 743 ((lc b x i).set 5 (.int q.1)) (([.int (xs (i + 1)), .int (xs (i + 2))] : List Value).reverse ++ .ref (x + 192) :: []) h1 (cs + 3) (ss + 18) P
  refine eh_callN (q := m_Mo_lay) (idx := 171) (EM h1 M1 B1.2.1 B1.2.2.1) (fun E h' => mm_no E h') (wd_ok (k := 2045) (by decide +kernel)) (wd_ok (k := 2042) (by decide +kernel)) (wd_ok (k := 144) (by decide +kernel)) (wd_ok (k := 2043) (by decide +kernel)) (wd_ok (k := 2044) (by decide +kernel)) (by show plainB _ 2 = true; decide +kernel) (by decide) (by decide) (Or.inl ⟨10, 25, TX12, rfl, M1.kd⟩) (by decide) (by decide +kernel) (by show cs + 3 + 0 ≤ 601024; omega) (by show ss + 18 + 0 ≤ 7293034; omega) (fun v h2 z => ?_)
  obtain ⟨e, t0, F, M2⟩ := z
  cases e
  have w2 : h2.2.1 (x + 208) 0 = h1.2.1 (x + 208) 0 := F.2.2 _ _ (by unfold mZ; omega)
  refine eh_istore (i := 6) (by decide +kernel) (by decide) ?_
  exact la_tail (p := 748) (off := 1844) hl (by decide +kernel) (by decide) M2 (B1.fs hx hb F) t0 (fun c => by rw [w2]; exact w1 c) (by show cs + 3 + 0 ≤ 601024; omega) (by show ss + 18 + 0 ≤ 7293034; omega) (K h2 S' _ _ (C1.fs F) M2 A' (B1.fs hx hb F) (by show cs + 3 + 0 ≤ cs + 6; omega) (by show ss + 18 + 0 ≤ ss + 847; omega))
theorem k_clear (hl : G.1.stackTraces = false) (hx : G.n0 ≤ x) (hb : b < G.n0) (hL : L ≤ 3072) (hi : i + 6 ≤ L) (C : CS G h x S) (M : MS G h (x + 192) S) (A : AbOk S) (B : LB G x tk b L xs h) (hc : cs + 6 ≤ 601024) (hs : ss + 847 ≤ 7293034) (K : Nx G hh x tk b L xs i cs ss P) : EvH G m_law hh 779 (lc b x i) [] h cs ss P := by
  refine eh_aloadn (i := 1) (j := 1) rfl (by decide +kernel) rfl ?_
  refine la_arg (k := 1) (by decide +kernel) rfl rfl rfl (by omega) hL B ?_
  obtain ⟨q, S', kq, A', EC, EM⟩ := j_clear (tk := tk) hl hx (xs (i + 1)) h S C A B.1 B.2.1
  refine eh_aloadn (i := 3) (j := 3) rfl (by decide +kernel) rfl ?_
  show EvH G m_law hh 787 (lc b x i) (([.ref x, .int (xs (i + 1)), .ref (x + 208)] : List Value).reverse ++ []) h cs ss P
  refine eh_callS (q := m_Lw_clear) (hq := hh_Lw_clear) (idx := 172) (h_Lw_clear (out := x + 208) EC C.kd (by omega) (fun v h' z => cc_v B z) (fun E h' z => by have w := cc_in kq z; simp only [cs_Lw_clear, List.mem_cons, List.not_mem_nil, or_false, Prod.mk.injEq] at w; exact w.imp (·.1) (·.1))) (fun E h' => hq_no E h') (wd_ok (k := 1250) (by decide +kernel)) (wd_ok (k := 1248) (by decide +kernel)) (wd_ok (k := 133) (by decide +kernel)) (wd_ok (k := 1249) (by decide +kernel)) (by show plainB _ 3 = true; decide +kernel) (by decide) (by decide) (by decide) (by decide +kernel) (by show cs + 2 ≤ 601024; omega) (by show ss + 12 ≤ 7293034; omega) (fun v h1 z => ?_)
  obtain ⟨e, C1, M1, B1, w1⟩ := mid hx hb kq M B z
  cases e
  refine eh_istore (i := 5) (by decide +kernel) (by decide) ?_
  refine eh_aloadn (i := 2) (j := 2) rfl (by decide +kernel) rfl ?_
  refine la_arg (k := 1) (by decide +kernel) rfl rfl rfl (by omega) hL B1 ?_
  show EvH G m_law hh 799 ((lc b x i).set 5 (.int q.1)) (([.int (xs (i + 1))] : List Value).reverse ++ .ref (x + 192) :: []) h1 (cs + 2) (ss + 12) P
  refine eh_callN (q := m_Mo_clear) (idx := 174) (EM h1 M1 B1.2.1 B1.2.2.1) (fun E h' => mm_no E h') (wd_ok (k := 2053) (by decide +kernel)) (wd_ok (k := 2050) (by decide +kernel)) (wd_ok (k := 144) (by decide +kernel)) (wd_ok (k := 2051) (by decide +kernel)) (wd_ok (k := 2052) (by decide +kernel)) (by show plainB _ 1 = true; decide +kernel) (by decide) (by decide) (Or.inl ⟨10, 25, TX12, rfl, M1.kd⟩) (by decide) (by decide +kernel) (by show cs + 2 + 0 ≤ 601024; omega) (by show ss + 12 + 0 ≤ 7293034; omega) (fun v h2 z => ?_)
  obtain ⟨e, t0, F, M2⟩ := z
  cases e
  have w2 : h2.2.1 (x + 208) 0 = h1.2.1 (x + 208) 0 := F.2.2 _ _ (by unfold mZ; omega)
  refine eh_istore (i := 6) (by decide +kernel) (by decide) ?_
  exact la_tail (p := 804) (off := 1788) hl (by decide +kernel) (by decide) M2 (B1.fs hx hb F) t0 (fun c => by rw [w2]; exact w1 c) (by show cs + 2 + 0 ≤ 601024; omega) (by show ss + 12 + 0 ≤ 7293034; omega) (K h2 S' _ _ (C1.fs F) M2 A' (B1.fs hx hb F) (by show cs + 2 + 0 ≤ cs + 6; omega) (by show ss + 12 + 0 ≤ ss + 847; omega))
theorem k_wake (hl : G.1.stackTraces = false) (hx : G.n0 ≤ x) (hb : b < G.n0) (hL : L ≤ 3072) (hi : i + 6 ≤ L) (C : CS G h x S) (M : MS G h (x + 192) S) (A : AbOk S) (B : LB G x tk b L xs h) (hc : cs + 6 ≤ 601024) (hs : ss + 847 ≤ 7293034) (K : Nx G hh x tk b L xs i cs ss P) : EvH G m_law hh 835 (lc b x i) [] h cs ss P := by
  refine eh_aloadn (i := 1) (j := 1) rfl (by decide +kernel) rfl ?_
  refine la_arg (k := 1) (by decide +kernel) rfl rfl rfl (by omega) hL B ?_
  obtain ⟨q, S', kq, A', EC, EM⟩ := j_wake (tk := tk) hl hx (xs (i + 1)) h S C A B.1 B.2.1
  refine eh_aloadn (i := 3) (j := 3) rfl (by decide +kernel) rfl ?_
  show EvH G m_law hh 843 (lc b x i) (([.ref x, .int (xs (i + 1)), .ref (x + 208)] : List Value).reverse ++ []) h cs ss P
  refine eh_callS (q := m_Lw_wake) (hq := hh_Lw_wake) (idx := 175) (h_Lw_wake (out := x + 208) EC C.kd (by omega) (fun v h' z => cc_v B z) (fun E h' z => by have w := cc_in kq z; simp only [cs_Lw_wake, List.mem_cons, List.not_mem_nil, or_false, Prod.mk.injEq] at w; exact w.imp (·.1) (·.1))) (fun E h' => hq_no E h') (wd_ok (k := 1257) (by decide +kernel)) (wd_ok (k := 1255) (by decide +kernel)) (wd_ok (k := 133) (by decide +kernel)) (wd_ok (k := 1256) (by decide +kernel)) (by show plainB _ 3 = true; decide +kernel) (by decide) (by decide) (by decide) (by decide +kernel) (by show cs + 3 ≤ 601024; omega) (by show ss + 18 ≤ 7293034; omega) (fun v h1 z => ?_)
  obtain ⟨e, C1, M1, B1, w1⟩ := mid hx hb kq M B z
  cases e
  refine eh_istore (i := 5) (by decide +kernel) (by decide) ?_
  refine eh_aloadn (i := 2) (j := 2) rfl (by decide +kernel) rfl ?_
  refine la_arg (k := 1) (by decide +kernel) rfl rfl rfl (by omega) hL B1 ?_
  show EvH G m_law hh 855 ((lc b x i).set 5 (.int q.1)) (([.int (xs (i + 1))] : List Value).reverse ++ .ref (x + 192) :: []) h1 (cs + 3) (ss + 18) P
  refine eh_callN (q := m_Mo_wake) (idx := 177) (EM h1 M1 B1.2.1 B1.2.2.1) (fun E h' => mm_no E h') (wd_ok (k := 2061) (by decide +kernel)) (wd_ok (k := 2058) (by decide +kernel)) (wd_ok (k := 144) (by decide +kernel)) (wd_ok (k := 2059) (by decide +kernel)) (wd_ok (k := 2060) (by decide +kernel)) (by show plainB _ 1 = true; decide +kernel) (by decide) (by decide) (Or.inl ⟨10, 25, TX12, rfl, M1.kd⟩) (by decide) (by decide +kernel) (by show cs + 3 + 0 ≤ 601024; omega) (by show ss + 18 + 0 ≤ 7293034; omega) (fun v h2 z => ?_)
  obtain ⟨e, t0, F, M2⟩ := z
  cases e
  have w2 : h2.2.1 (x + 208) 0 = h1.2.1 (x + 208) 0 := F.2.2 _ _ (by unfold mZ; omega)
  refine eh_istore (i := 6) (by decide +kernel) (by decide) ?_
  exact la_tail (p := 860) (off := 1732) hl (by decide +kernel) (by decide) M2 (B1.fs hx hb F) t0 (fun c => by rw [w2]; exact w1 c) (by show cs + 3 + 0 ≤ 601024; omega) (by show ss + 18 + 0 ≤ 7293034; omega) (K h2 S' _ _ (C1.fs F) M2 A' (B1.fs hx hb F) (by show cs + 3 + 0 ≤ cs + 6; omega) (by show ss + 18 + 0 ≤ ss + 847; omega))
theorem k_open (hl : G.1.stackTraces = false) (hx : G.n0 ≤ x) (hb : b < G.n0) (hL : L ≤ 3072) (hi : i + 6 ≤ L) (C : CS G h x S) (M : MS G h (x + 192) S) (A : AbOk S) (B : LB G x tk b L xs h) (hc : cs + 6 ≤ 601024) (hs : ss + 847 ≤ 7293034) (K : Nx G hh x tk b L xs i cs ss P) : EvH G m_law hh 891 (lc b x i) [] h cs ss P := by
  refine eh_aloadn (i := 1) (j := 1) rfl (by decide +kernel) rfl ?_
  refine la_arg (k := 1) (by decide +kernel) rfl rfl rfl (by omega) hL B ?_
  obtain ⟨q, S', kq, A', EC, EM⟩ := j_open (tk := tk) hl hx (xs (i + 1)) h S C A B.1 B.2.1
  refine eh_aloadn (i := 3) (j := 3) rfl (by decide +kernel) rfl ?_
  show EvH G m_law hh 899 (lc b x i) (([.ref x, .int (xs (i + 1)), .ref (x + 208)] : List Value).reverse ++ []) h cs ss P
  refine eh_callS (q := m_Lw_open) (hq := hh_Lw_open) (idx := 178) (h_Lw_open (out := x + 208) EC C.kd (by omega) (fun v h' z => cc_v B z) (fun E h' z => by have w := cc_in kq z; simp only [cs_Lw_open, List.mem_cons, List.not_mem_nil, or_false, Prod.mk.injEq] at w; exact w.imp (·.1) (·.1))) (fun E h' => hq_no E h') (wd_ok (k := 1265) (by decide +kernel)) (wd_ok (k := 1263) (by decide +kernel)) (wd_ok (k := 133) (by decide +kernel)) (wd_ok (k := 1264) (by decide +kernel)) (by show plainB _ 3 = true; decide +kernel) (by decide) (by decide) (by decide) (by decide +kernel) (by show cs + 2 ≤ 601024; omega) (by show ss + 12 ≤ 7293034; omega) (fun v h1 z => ?_)
  obtain ⟨e, C1, M1, B1, w1⟩ := mid hx hb kq M B z
  cases e
  refine eh_istore (i := 5) (by decide +kernel) (by decide) ?_
  refine eh_aloadn (i := 2) (j := 2) rfl (by decide +kernel) rfl ?_
  refine la_arg (k := 1) (by decide +kernel) rfl rfl rfl (by omega) hL B1 ?_
  show EvH G m_law hh 911 ((lc b x i).set 5 (.int q.1)) (([.int (xs (i + 1))] : List Value).reverse ++ .ref (x + 192) :: []) h1 (cs + 2) (ss + 12) P
  refine eh_callN (q := m_Mo_open) (idx := 180) (EM h1 M1 B1.2.1 B1.2.2.1) (fun E h' => mm_no E h') (wd_ok (k := 2065) (by decide +kernel)) (wd_ok (k := 2062) (by decide +kernel)) (wd_ok (k := 144) (by decide +kernel)) (wd_ok (k := 2063) (by decide +kernel)) (wd_ok (k := 2064) (by decide +kernel)) (by show plainB _ 1 = true; decide +kernel) (by decide) (by decide) (Or.inl ⟨10, 25, TX12, rfl, M1.kd⟩) (by decide) (by decide +kernel) (by show cs + 2 + 0 ≤ 601024; omega) (by show ss + 12 + 0 ≤ 7293034; omega) (fun v h2 z => ?_)
  obtain ⟨e, t0, F, M2⟩ := z
  cases e
  have w2 : h2.2.1 (x + 208) 0 = h1.2.1 (x + 208) 0 := F.2.2 _ _ (by unfold mZ; omega)
  refine eh_istore (i := 6) (by decide +kernel) (by decide) ?_
  exact la_tail (p := 916) (off := 1676) hl (by decide +kernel) (by decide) M2 (B1.fs hx hb F) t0 (fun c => by rw [w2]; exact w1 c) (by show cs + 2 + 0 ≤ 601024; omega) (by show ss + 12 + 0 ≤ 7293034; omega) (K h2 S' _ _ (C1.fs F) M2 A' (B1.fs hx hb F) (by show cs + 2 + 0 ≤ cs + 6; omega) (by show ss + 12 + 0 ≤ ss + 847; omega))
theorem k_swap (hl : G.1.stackTraces = false) (hx : G.n0 ≤ x) (hb : b < G.n0) (hL : L ≤ 3072) (hi : i + 6 ≤ L) (C : CS G h x S) (M : MS G h (x + 192) S) (A : AbOk S) (B : LB G x tk b L xs h) (hc : cs + 6 ≤ 601024) (hs : ss + 847 ≤ 7293034) (K : Nx G hh x tk b L xs i cs ss P) : EvH G m_law hh 947 (lc b x i) [] h cs ss P := by
  refine eh_aloadn (i := 1) (j := 1) rfl (by decide +kernel) rfl ?_
  refine la_arg (k := 1) (by decide +kernel) rfl rfl rfl (by omega) hL B ?_
  refine la_arg (k := 2) (by decide +kernel) rfl rfl rfl (by omega) hL B ?_
  obtain ⟨q, S', kq, A', EC, EM⟩ := j_swap (tk := tk) hl hx (xs (i + 1)) (xs (i + 2)) h S C A B.1 B.2.1
  refine eh_aloadn (i := 3) (j := 3) rfl (by decide +kernel) rfl ?_
  show EvH G m_law hh 961 (lc b x i) (([.ref x, .int (xs (i + 1)), .int (xs (i + 2)), .ref (x + 208)] : List Value).reverse ++ []) h cs ss P
  refine eh_callS (q := m_Lw_swap) (hq := hh_Lw_swap) (idx := 181) (h_Lw_swap (out := x + 208) EC C.kd (by omega) (fun v h' z => cc_v B z) (fun E h' z => by have w := cc_in kq z; simp only [cs_Lw_swap, List.mem_cons, List.not_mem_nil, or_false, Prod.mk.injEq] at w; exact w.imp (·.1) (fun w => w.imp (·.1) (·.1)))) (fun E h' => hq_no E h') (wd_ok (k := 1272) (by decide +kernel)) (wd_ok (k := 1270) (by decide +kernel)) (wd_ok (k := 133) (by decide +kernel)) (wd_ok (k := 1271) (by decide +kernel)) (by show plainB _ 4 = true; decide +kernel) (by decide) (by decide) (by decide) (by decide +kernel) (by show cs + 4 ≤ 601024; omega) (by show ss + 24 ≤ 7293034; omega) (fun v h1 z => ?_)
  obtain ⟨e, C1, M1, B1, w1⟩ := mid hx hb kq M B z
  cases e
  refine eh_istore (i := 5) (by decide +kernel) (by decide) ?_
  refine eh_aloadn (i := 2) (j := 2) rfl (by decide +kernel) rfl ?_
  refine la_arg (k := 1) (by decide +kernel) rfl rfl rfl (by omega) hL B1 ?_
  refine la_arg (k := 2) (by decide +kernel) rfl rfl rfl (by omega) hL B1 ?_
  show EvH G m_law hh 979 ((lc b x i).set 5 (.int q.1)) (([.int (xs (i + 1)), .int (xs (i + 2))] : List Value).reverse ++ .ref (x + 192) :: []) h1 (cs + 4) (ss + 24) P
  refine eh_callN (q := m_Mo_swap) (idx := 183) (EM h1 M1 B1.2.1 B1.2.2.1) (fun E h' => mm_no E h') (wd_ok (k := 2069) (by decide +kernel)) (wd_ok (k := 2066) (by decide +kernel)) (wd_ok (k := 144) (by decide +kernel)) (wd_ok (k := 2067) (by decide +kernel)) (wd_ok (k := 2068) (by decide +kernel)) (by show plainB _ 2 = true; decide +kernel) (by decide) (by decide) (Or.inl ⟨10, 25, TX12, rfl, M1.kd⟩) (by decide) (by decide +kernel) (by show cs + 4 + 0 ≤ 601024; omega) (by show ss + 24 + 0 ≤ 7293034; omega) (fun v h2 z => ?_)
  obtain ⟨e, t0, F, M2⟩ := z
  cases e
  have w2 : h2.2.1 (x + 208) 0 = h1.2.1 (x + 208) 0 := F.2.2 _ _ (by unfold mZ; omega)
  refine eh_istore (i := 6) (by decide +kernel) (by decide) ?_
  exact la_tail (p := 984) (off := 1608) hl (by decide +kernel) (by decide) M2 (B1.fs hx hb F) t0 (fun c => by rw [w2]; exact w1 c) (by show cs + 4 + 0 ≤ 601024; omega) (by show ss + 24 + 0 ≤ 7293034; omega) (K h2 S' _ _ (C1.fs F) M2 A' (B1.fs hx hb F) (by show cs + 4 + 0 ≤ cs + 6; omega) (by show ss + 24 + 0 ≤ ss + 847; omega))
theorem k_heir (hl : G.1.stackTraces = false) (hx : G.n0 ≤ x) (hb : b < G.n0) (hL : L ≤ 3072) (hi : i + 6 ≤ L) (C : CS G h x S) (M : MS G h (x + 192) S) (A : AbOk S) (B : LB G x tk b L xs h) (hc : cs + 6 ≤ 601024) (hs : ss + 847 ≤ 7293034) (K : Nx G hh x tk b L xs i cs ss P) : EvH G m_law hh 1015 (lc b x i) [] h cs ss P := by
  refine eh_aloadn (i := 1) (j := 1) rfl (by decide +kernel) rfl ?_
  refine la_arg (k := 1) (by decide +kernel) rfl rfl rfl (by omega) hL B ?_
  refine la_arg (k := 2) (by decide +kernel) rfl rfl rfl (by omega) hL B ?_
  obtain ⟨q, S', kq, A', EC, EM⟩ := j_heir (tk := tk) hl hx (xs (i + 1)) (xs (i + 2)) h S C A B.1 B.2.1
  refine eh_aloadn (i := 3) (j := 3) rfl (by decide +kernel) rfl ?_
  show EvH G m_law hh 1029 (lc b x i) (([.ref x, .int (xs (i + 1)), .int (xs (i + 2)), .ref (x + 208)] : List Value).reverse ++ []) h cs ss P
  refine eh_callS (q := m_Lw_heir) (hq := hh_Lw_heir) (idx := 184) (h_Lw_heir (out := x + 208) EC C.kd (by omega) (fun v h' z => cc_v B z) (fun E h' z => by have w := cc_in kq z; simp only [cs_Lw_heir, List.mem_cons, List.not_mem_nil, or_false, Prod.mk.injEq] at w; exact w.imp (·.1) (·.1))) (fun E h' => hq_no E h') (wd_ok (k := 1283) (by decide +kernel)) (wd_ok (k := 1281) (by decide +kernel)) (wd_ok (k := 133) (by decide +kernel)) (wd_ok (k := 1282) (by decide +kernel)) (by show plainB _ 4 = true; decide +kernel) (by decide) (by decide) (by decide) (by decide +kernel) (by show cs + 3 ≤ 601024; omega) (by show ss + 18 ≤ 7293034; omega) (fun v h1 z => ?_)
  obtain ⟨e, C1, M1, B1, w1⟩ := mid hx hb kq M B z
  cases e
  refine eh_istore (i := 5) (by decide +kernel) (by decide) ?_
  refine eh_aloadn (i := 2) (j := 2) rfl (by decide +kernel) rfl ?_
  refine la_arg (k := 1) (by decide +kernel) rfl rfl rfl (by omega) hL B1 ?_
  refine la_arg (k := 2) (by decide +kernel) rfl rfl rfl (by omega) hL B1 ?_
  show EvH G m_law hh 1047 ((lc b x i).set 5 (.int q.1)) (([.int (xs (i + 1)), .int (xs (i + 2))] : List Value).reverse ++ .ref (x + 192) :: []) h1 (cs + 3) (ss + 18) P
  refine eh_callN (q := m_Mo_heir) (idx := 186) (EM h1 M1 B1.2.1 B1.2.2.1) (fun E h' => mm_no E h') (wd_ok (k := 2077) (by decide +kernel)) (wd_ok (k := 2074) (by decide +kernel)) (wd_ok (k := 144) (by decide +kernel)) (wd_ok (k := 2075) (by decide +kernel)) (wd_ok (k := 2076) (by decide +kernel)) (by show plainB _ 2 = true; decide +kernel) (by decide) (by decide) (Or.inl ⟨10, 25, TX12, rfl, M1.kd⟩) (by decide) (by decide +kernel) (by show cs + 3 + 0 ≤ 601024; omega) (by show ss + 18 + 0 ≤ 7293034; omega) (fun v h2 z => ?_)
  obtain ⟨e, t0, F, M2⟩ := z
  cases e
  have w2 : h2.2.1 (x + 208) 0 = h1.2.1 (x + 208) 0 := F.2.2 _ _ (by unfold mZ; omega)
  refine eh_istore (i := 6) (by decide +kernel) (by decide) ?_
  exact la_tail (p := 1052) (off := 1540) hl (by decide +kernel) (by decide) M2 (B1.fs hx hb F) t0 (fun c => by rw [w2]; exact w1 c) (by show cs + 3 + 0 ≤ 601024; omega) (by show ss + 18 + 0 ≤ 7293034; omega) (K h2 S' _ _ (C1.fs F) M2 A' (B1.fs hx hb F) (by show cs + 3 + 0 ≤ cs + 6; omega) (by show ss + 18 + 0 ≤ ss + 847; omega))
theorem k_tie (hl : G.1.stackTraces = false) (hx : G.n0 ≤ x) (hb : b < G.n0) (hL : L ≤ 3072) (hi : i + 6 ≤ L) (C : CS G h x S) (M : MS G h (x + 192) S) (A : AbOk S) (B : LB G x tk b L xs h) (hc : cs + 6 ≤ 601024) (hs : ss + 847 ≤ 7293034) (K : Nx G hh x tk b L xs i cs ss P) : EvH G m_law hh 1083 (lc b x i) [] h cs ss P := by
  refine eh_aloadn (i := 1) (j := 1) rfl (by decide +kernel) rfl ?_
  refine la_arg (k := 1) (by decide +kernel) rfl rfl rfl (by omega) hL B ?_
  refine la_arg (k := 2) (by decide +kernel) rfl rfl rfl (by omega) hL B ?_
  refine la_bz (by decide +kernel) ?_
  obtain ⟨q, S', kq, qb, A', EC, EM⟩ := j_tie (tk := tk) hl hx (xs (i + 1)) (bz (xs (i + 2))) h S C A B.1 B.2.1
  refine eh_aloadn (i := 3) (j := 3) rfl (by decide +kernel) rfl ?_
  show EvH G m_law hh 1105 (lc b x i) (([.ref x, .int (xs (i + 1)), .int (bz (xs (i + 2))), .ref (x + 208)] : List Value).reverse ++ []) h cs ss P
  refine eh_callS (q := m_Lw_tie) (hq := hh_Lw_tie) (idx := 187) (h_Lw_tie (out := x + 208) EC C.kd (by omega) (fun v h' z => cc_vb B qb z) (fun E h' z => by have w := cc_in kq z; simp only [cs_Lw_tie, List.mem_cons, List.not_mem_nil, or_false, Prod.mk.injEq] at w; exact w.1)) (fun E h' => hq_no E h') (wd_ok (k := 1290) (by decide +kernel)) (wd_ok (k := 1288) (by decide +kernel)) (wd_ok (k := 133) (by decide +kernel)) (wd_ok (k := 1289) (by decide +kernel)) (by show plainB _ 4 = true; decide +kernel) (by decide) (by decide) (by decide) (by decide +kernel) (by show cs + 1 ≤ 601024; omega) (by show ss + 6 ≤ 7293034; omega) (fun v h1 z => ?_)
  obtain ⟨e, C1, M1, B1, w1⟩ := mid hx hb kq M B z
  cases e
  refine eh_istore (i := 5) (by decide +kernel) (by decide) ?_
  refine eh_aloadn (i := 2) (j := 2) rfl (by decide +kernel) rfl ?_
  refine la_arg (k := 1) (by decide +kernel) rfl rfl rfl (by omega) hL B1 ?_
  refine la_arg (k := 2) (by decide +kernel) rfl rfl rfl (by omega) hL B1 ?_
  refine la_bz (by decide +kernel) ?_
  show EvH G m_law hh 1131 ((lc b x i).set 5 (.int q.1)) (([.int (xs (i + 1)), .int (bz (xs (i + 2)))] : List Value).reverse ++ .ref (x + 192) :: []) h1 (cs + 1) (ss + 6) P
  refine eh_callN (q := m_Mo_tie) (idx := 190) (EM h1 M1 B1.2.1 B1.2.2.1) (fun E h' => mm_no E h') (wd_ok (k := 2085) (by decide +kernel)) (wd_ok (k := 2082) (by decide +kernel)) (wd_ok (k := 144) (by decide +kernel)) (wd_ok (k := 2083) (by decide +kernel)) (wd_ok (k := 2084) (by decide +kernel)) (by show plainB _ 2 = true; decide +kernel) (by decide) (by decide) (Or.inl ⟨10, 25, TX12, rfl, M1.kd⟩) (by decide) (by decide +kernel) (by show cs + 1 + 0 ≤ 601024; omega) (by show ss + 6 + 0 ≤ 7293034; omega) (fun v h2 z => ?_)
  obtain ⟨e, t0, F, M2⟩ := z
  cases e
  have w2 : h2.2.1 (x + 208) 0 = h1.2.1 (x + 208) 0 := F.2.2 _ _ (by unfold mZ; omega)
  refine eh_istore (i := 6) (by decide +kernel) (by decide) ?_
  exact la_tailb (p := 1136) (off := 1449) hl (by decide +kernel) (by decide) M2 (B1.fs hx hb F) t0 qb (fun c => by rw [w2]; exact w1 c) (by show cs + 1 + 0 ≤ 601024; omega) (by show ss + 6 + 0 ≤ 7293034; omega) (K h2 S' _ _ (C1.fs F) M2 A' (B1.fs hx hb F) (by show cs + 1 + 0 ≤ cs + 6; omega) (by show ss + 6 + 0 ≤ ss + 847; omega))
theorem k_born (hl : G.1.stackTraces = false) (hx : G.n0 ≤ x) (hb : b < G.n0) (hL : L ≤ 3072) (hi : i + 6 ≤ L) (C : CS G h x S) (M : MS G h (x + 192) S) (A : AbOk S) (B : LB G x tk b L xs h) (hc : cs + 6 ≤ 601024) (hs : ss + 847 ≤ 7293034) (K : Nx G hh x tk b L xs i cs ss P) : EvH G m_law hh 1174 (lc b x i) [] h cs ss P := by
  refine eh_aloadn (i := 1) (j := 1) rfl (by decide +kernel) rfl ?_
  refine la_arg (k := 1) (by decide +kernel) rfl rfl rfl (by omega) hL B ?_
  obtain ⟨q, S', kq, A', EC, EM⟩ := j_born (tk := tk) hl hx (xs (i + 1)) h S C A B.1 B.2.1
  refine eh_aloadn (i := 3) (j := 3) rfl (by decide +kernel) rfl ?_
  show EvH G m_law hh 1182 (lc b x i) (([.ref x, .int (xs (i + 1)), .ref (x + 208)] : List Value).reverse ++ []) h cs ss P
  refine eh_callS (q := m_Lw_born) (hq := hh_Lw_born) (idx := 191) (h_Lw_born (out := x + 208) EC C.kd (by omega) (fun v h' z => cc_v B z) (fun E h' z => by have w := cc_in kq z; simp only [cs_Lw_born, List.mem_cons, List.not_mem_nil, or_false, Prod.mk.injEq] at w; exact w.imp (·.1) (·.1))) (fun E h' => hq_no E h') (wd_ok (k := 1297) (by decide +kernel)) (wd_ok (k := 1295) (by decide +kernel)) (wd_ok (k := 133) (by decide +kernel)) (wd_ok (k := 1296) (by decide +kernel)) (by show plainB _ 3 = true; decide +kernel) (by decide) (by decide) (by decide) (by decide +kernel) (by show cs + 2 ≤ 601024; omega) (by show ss + 12 ≤ 7293034; omega) (fun v h1 z => ?_)
  obtain ⟨e, C1, M1, B1, w1⟩ := mid hx hb kq M B z
  cases e
  refine eh_istore (i := 5) (by decide +kernel) (by decide) ?_
  refine eh_aloadn (i := 2) (j := 2) rfl (by decide +kernel) rfl ?_
  refine la_arg (k := 1) (by decide +kernel) rfl rfl rfl (by omega) hL B1 ?_
  show EvH G m_law hh 1194 ((lc b x i).set 5 (.int q.1)) (([.int (xs (i + 1))] : List Value).reverse ++ .ref (x + 192) :: []) h1 (cs + 2) (ss + 12) P
  refine eh_callN (q := m_Mo_born) (idx := 193) (EM h1 M1 B1.2.1 B1.2.2.1) (fun E h' => mm_no E h') (wd_ok (k := 2089) (by decide +kernel)) (wd_ok (k := 2086) (by decide +kernel)) (wd_ok (k := 144) (by decide +kernel)) (wd_ok (k := 2087) (by decide +kernel)) (wd_ok (k := 2088) (by decide +kernel)) (by show plainB _ 1 = true; decide +kernel) (by decide) (by decide) (Or.inl ⟨10, 25, TX12, rfl, M1.kd⟩) (by decide) (by decide +kernel) (by show cs + 2 + 0 ≤ 601024; omega) (by show ss + 12 + 0 ≤ 7293034; omega) (fun v h2 z => ?_)
  obtain ⟨e, t0, F, M2⟩ := z
  cases e
  have w2 : h2.2.1 (x + 208) 0 = h1.2.1 (x + 208) 0 := F.2.2 _ _ (by unfold mZ; omega)
  refine eh_istore (i := 6) (by decide +kernel) (by decide) ?_
  exact la_tail (p := 1199) (off := 1393) hl (by decide +kernel) (by decide) M2 (B1.fs hx hb F) t0 (fun c => by rw [w2]; exact w1 c) (by show cs + 2 + 0 ≤ 601024; omega) (by show ss + 12 + 0 ≤ 7293034; omega) (K h2 S' _ _ (C1.fs F) M2 A' (B1.fs hx hb F) (by show cs + 2 + 0 ≤ cs + 6; omega) (by show ss + 12 + 0 ≤ ss + 847; omega))
theorem k_give (hl : G.1.stackTraces = false) (hx : G.n0 ≤ x) (hb : b < G.n0) (hL : L ≤ 3072) (hi : i + 6 ≤ L) (C : CS G h x S) (M : MS G h (x + 192) S) (A : AbOk S) (B : LB G x tk b L xs h) (hc : cs + 6 ≤ 601024) (hs : ss + 847 ≤ 7293034) (K : Nx G hh x tk b L xs i cs ss P) : EvH G m_law hh 1230 (lc b x i) [] h cs ss P := by
  refine eh_aloadn (i := 1) (j := 1) rfl (by decide +kernel) rfl ?_
  refine la_arg (k := 1) (by decide +kernel) rfl rfl rfl (by omega) hL B ?_
  refine la_arg (k := 2) (by decide +kernel) rfl rfl rfl (by omega) hL B ?_
  obtain ⟨q, S', kq, A', EC, EM⟩ := j_give (tk := tk) hl hx (xs (i + 1)) (xs (i + 2)) h S C A B.1 B.2.1
  refine eh_aloadn (i := 3) (j := 3) rfl (by decide +kernel) rfl ?_
  show EvH G m_law hh 1244 (lc b x i) (([.ref x, .int (xs (i + 1)), .int (xs (i + 2)), .ref (x + 208)] : List Value).reverse ++ []) h cs ss P
  refine eh_callS (q := m_Lw_give) (hq := hh_Lw_give) (idx := 194) (h_Lw_give (out := x + 208) EC C.kd (by omega) (fun v h' z => cc_v B z) (fun E h' z => by have w := cc_in kq z; simp only [cs_Lw_give, List.mem_cons, List.not_mem_nil, or_false, Prod.mk.injEq] at w; exact w.imp (·.1) (·.1))) (fun E h' => hq_no E h') (wd_ok (k := 1305) (by decide +kernel)) (wd_ok (k := 1303) (by decide +kernel)) (wd_ok (k := 133) (by decide +kernel)) (wd_ok (k := 1304) (by decide +kernel)) (by show plainB _ 4 = true; decide +kernel) (by decide) (by decide) (by decide) (by decide +kernel) (by show cs + 3 ≤ 601024; omega) (by show ss + 18 ≤ 7293034; omega) (fun v h1 z => ?_)
  obtain ⟨e, C1, M1, B1, w1⟩ := mid hx hb kq M B z
  cases e
  refine eh_istore (i := 5) (by decide +kernel) (by decide) ?_
  refine eh_aloadn (i := 2) (j := 2) rfl (by decide +kernel) rfl ?_
  refine la_arg (k := 1) (by decide +kernel) rfl rfl rfl (by omega) hL B1 ?_
  refine la_arg (k := 2) (by decide +kernel) rfl rfl rfl (by omega) hL B1 ?_
  show EvH G m_law hh 1262 ((lc b x i).set 5 (.int q.1)) (([.int (xs (i + 1)), .int (xs (i + 2))] : List Value).reverse ++ .ref (x + 192) :: []) h1 (cs + 3) (ss + 18) P
  refine eh_callN (q := m_Mo_give) (idx := 196) (EM h1 M1 B1.2.1 B1.2.2.1) (fun E h' => mm_no E h') (wd_ok (k := 2093) (by decide +kernel)) (wd_ok (k := 2090) (by decide +kernel)) (wd_ok (k := 144) (by decide +kernel)) (wd_ok (k := 2091) (by decide +kernel)) (wd_ok (k := 2092) (by decide +kernel)) (by show plainB _ 2 = true; decide +kernel) (by decide) (by decide) (Or.inl ⟨10, 25, TX12, rfl, M1.kd⟩) (by decide) (by decide +kernel) (by show cs + 3 + 0 ≤ 601024; omega) (by show ss + 18 + 0 ≤ 7293034; omega) (fun v h2 z => ?_)
  obtain ⟨e, t0, F, M2⟩ := z
  cases e
  have w2 : h2.2.1 (x + 208) 0 = h1.2.1 (x + 208) 0 := F.2.2 _ _ (by unfold mZ; omega)
  refine eh_istore (i := 6) (by decide +kernel) (by decide) ?_
  exact la_tail (p := 1267) (off := 1325) hl (by decide +kernel) (by decide) M2 (B1.fs hx hb F) t0 (fun c => by rw [w2]; exact w1 c) (by show cs + 3 + 0 ≤ 601024; omega) (by show ss + 18 + 0 ≤ 7293034; omega) (K h2 S' _ _ (C1.fs F) M2 A' (B1.fs hx hb F) (by show cs + 3 + 0 ≤ cs + 6; omega) (by show ss + 18 + 0 ≤ ss + 847; omega))
theorem k_hoard (hl : G.1.stackTraces = false) (hx : G.n0 ≤ x) (hb : b < G.n0) (hL : L ≤ 3072) (hi : i + 6 ≤ L) (C : CS G h x S) (M : MS G h (x + 192) S) (A : AbOk S) (B : LB G x tk b L xs h) (hc : cs + 6 ≤ 601024) (hs : ss + 847 ≤ 7293034) (K : Nx G hh x tk b L xs i cs ss P) : EvH G m_law hh 1298 (lc b x i) [] h cs ss P := by
  refine eh_aloadn (i := 1) (j := 1) rfl (by decide +kernel) rfl ?_
  refine la_arg (k := 1) (by decide +kernel) rfl rfl rfl (by omega) hL B ?_
  refine la_arg (k := 2) (by decide +kernel) rfl rfl rfl (by omega) hL B ?_
  refine la_arg (k := 3) (by decide +kernel) rfl rfl rfl (by omega) hL B ?_
  refine la_bz (by decide +kernel) ?_
  obtain ⟨q, S', kq, A', EC, EM⟩ := j_hoard (tk := tk) hl hx (xs (i + 1)) (xs (i + 2)) (bz (xs (i + 3))) h S C A B.1 B.2.1
  refine eh_aloadn (i := 3) (j := 3) rfl (by decide +kernel) rfl ?_
  show EvH G m_law hh 1326 (lc b x i) (([.ref x, .int (xs (i + 1)), .int (xs (i + 2)), .int (bz (xs (i + 3))), .ref (x + 208)] : List Value).reverse ++ []) h cs ss P
  refine eh_callS (q := m_Lw_hoard) (hq := hh_Lw_hoard) (idx := 197) (h_Lw_hoard (out := x + 208) EC C.kd (by omega) (fun v h' z => cc_v B z) (fun E h' z => by have w := cc_in kq z; simp only [cs_Lw_hoard, List.mem_cons, List.not_mem_nil, or_false, Prod.mk.injEq] at w; exact w.imp (·.1) (·.1))) (fun E h' => hq_no E h') (wd_ok (k := 1312) (by decide +kernel)) (wd_ok (k := 1310) (by decide +kernel)) (wd_ok (k := 133) (by decide +kernel)) (wd_ok (k := 1311) (by decide +kernel)) (by show plainB _ 5 = true; decide +kernel) (by decide) (by decide) (by decide) (by decide +kernel) (by show cs + 2 ≤ 601024; omega) (by show ss + 12 ≤ 7293034; omega) (fun v h1 z => ?_)
  obtain ⟨e, C1, M1, B1, w1⟩ := mid hx hb kq M B z
  cases e
  refine eh_istore (i := 5) (by decide +kernel) (by decide) ?_
  refine eh_aloadn (i := 2) (j := 2) rfl (by decide +kernel) rfl ?_
  refine la_arg (k := 1) (by decide +kernel) rfl rfl rfl (by omega) hL B1 ?_
  refine la_arg (k := 2) (by decide +kernel) rfl rfl rfl (by omega) hL B1 ?_
  refine la_arg (k := 3) (by decide +kernel) rfl rfl rfl (by omega) hL B1 ?_
  refine la_bz (by decide +kernel) ?_
  show EvH G m_law hh 1358 ((lc b x i).set 5 (.int q.1)) (([.int (xs (i + 1)), .int (xs (i + 2)), .int (bz (xs (i + 3)))] : List Value).reverse ++ .ref (x + 192) :: []) h1 (cs + 2) (ss + 12) P
  refine eh_callN (q := m_Mo_hoard) (idx := 200) (EM h1 M1 B1.2.1 B1.2.2.1) (fun E h' => mm_no E h') (wd_ok (k := 2097) (by decide +kernel)) (wd_ok (k := 2094) (by decide +kernel)) (wd_ok (k := 144) (by decide +kernel)) (wd_ok (k := 2095) (by decide +kernel)) (wd_ok (k := 2096) (by decide +kernel)) (by show plainB _ 3 = true; decide +kernel) (by decide) (by decide) (Or.inl ⟨10, 25, TX12, rfl, M1.kd⟩) (by decide) (by decide +kernel) (by show cs + 2 + 0 ≤ 601024; omega) (by show ss + 12 + 0 ≤ 7293034; omega) (fun v h2 z => ?_)
  obtain ⟨e, t0, F, M2⟩ := z
  cases e
  have w2 : h2.2.1 (x + 208) 0 = h1.2.1 (x + 208) 0 := F.2.2 _ _ (by unfold mZ; omega)
  refine eh_istore (i := 6) (by decide +kernel) (by decide) ?_
  exact la_tail (p := 1363) (off := 1229) hl (by decide +kernel) (by decide) M2 (B1.fs hx hb F) t0 (fun c => by rw [w2]; exact w1 c) (by show cs + 2 + 0 ≤ 601024; omega) (by show ss + 12 + 0 ≤ 7293034; omega) (K h2 S' _ _ (C1.fs F) M2 A' (B1.fs hx hb F) (by show cs + 2 + 0 ≤ cs + 6; omega) (by show ss + 12 + 0 ≤ ss + 847; omega))
theorem k_round (hl : G.1.stackTraces = false) (hx : G.n0 ≤ x) (hb : b < G.n0) (hL : L ≤ 3072) (hi : i + 6 ≤ L) (C : CS G h x S) (M : MS G h (x + 192) S) (A : AbOk S) (B : LB G x tk b L xs h) (hc : cs + 6 ≤ 601024) (hs : ss + 847 ≤ 7293034) (K : Nx G hh x tk b L xs i cs ss P) : EvH G m_law hh 1394 (lc b x i) [] h cs ss P := by
  refine eh_aloadn (i := 1) (j := 1) rfl (by decide +kernel) rfl ?_
  obtain ⟨v0, S', iv, A', EC, EM⟩ := j_round (tk := tk) hl hx h S C A B.1 B.2.1
  obtain ⟨y, rfl⟩ : ∃ y, v0 = some (.int y) := iv
  show EvH G m_law hh 1395 (lc b x i) (([] : List Value).reverse ++ .ref x :: []) h cs ss P
  refine eh_callN (q := m_Gr_round) (idx := 201) EC (fun E h' z => nomatch z.1) (wd_ok (k := 508) (by decide +kernel)) (wd_ok (k := 505) (by decide +kernel)) (wd_ok (k := 134) (by decide +kernel)) (wd_ok (k := 506) (by decide +kernel)) (wd_ok (k := 507) (by decide +kernel)) (by show plainB _ 0 = true; decide +kernel) (by decide) (by decide) (Or.inl ⟨9, 13, TX11, rfl, C.kd⟩) (by decide) (by decide +kernel) (by show cs + 0 ≤ 601024; omega) (by show ss + 0 ≤ 7293034; omega) (fun v h1 z => ?_)
  obtain ⟨e, g, C1⟩ := z
  cases e
  have M1 := M.gw B.1 g
  have B1 := B.gw hx hb g
  refine eh_aloadn (i := 2) (j := 2) rfl (by decide +kernel) rfl ?_
  show EvH G m_law hh 1399 (lc b x i) (([] : List Value).reverse ++ .ref (x + 192) :: [.int y]) h1 (cs + 0) (ss + 0) P
  refine eh_callN (q := m_Mo_round) (idx := 204) (EM h1 M1 B1.2.1 B1.2.2.1) (fun E h' z => nomatch z.1) (wd_ok (k := 2109) (by decide +kernel)) (wd_ok (k := 2106) (by decide +kernel)) (wd_ok (k := 144) (by decide +kernel)) (wd_ok (k := 2107) (by decide +kernel)) (wd_ok (k := 2108) (by decide +kernel)) (by show plainB _ 0 = true; decide +kernel) (by decide) (by decide) (Or.inl ⟨10, 25, TX12, rfl, M1.kd⟩) (by show 1 ≤ 8; decide) (by decide +kernel) (by show cs + 0 + 0 ≤ 601024; omega) (by show ss + 0 + 0 ≤ 7293034; omega) (fun v h2 z => ?_)
  obtain ⟨e, F, M2⟩ := z
  cases e
  exact eh_icmp_eq (off := 1218) (tgt := 2620) (by decide +kernel) rfl (fun _ => K h2 S' _ _ (C1.fs F) M2 A' (B1.fs hx hb F) (by show cs + 0 + 0 ≤ cs + 6; omega) (by show ss + 0 + 0 ≤ ss + 847; omega)) (fun n => absurd rfl n)
theorem k_escheat (hl : G.1.stackTraces = false) (hx : G.n0 ≤ x) (hb : b < G.n0) (hL : L ≤ 3072) (hi : i + 6 ≤ L) (C : CS G h x S) (M : MS G h (x + 192) S) (A : AbOk S) (B : LB G x tk b L xs h) (hc : cs + 6 ≤ 601024) (hs : ss + 847 ≤ 7293034) (K : Nx G hh x tk b L xs i cs ss P) : EvH G m_law hh 1407 (lc b x i) [] h cs ss P := by
  refine eh_aloadn (i := 1) (j := 1) rfl (by decide +kernel) rfl ?_
  obtain ⟨v0, S', iv, A', EC, EM⟩ := j_escheat (tk := tk) hl hx h S C A B.1 B.2.1
  obtain ⟨y, rfl⟩ : ∃ y, v0 = some (.int y) := iv
  show EvH G m_law hh 1408 (lc b x i) (([] : List Value).reverse ++ .ref x :: []) h cs ss P
  refine eh_callN (q := m_Gr_escheat) (idx := 205) EC (fun E h' z => nomatch z.1) (wd_ok (k := 515) (by decide +kernel)) (wd_ok (k := 512) (by decide +kernel)) (wd_ok (k := 134) (by decide +kernel)) (wd_ok (k := 513) (by decide +kernel)) (wd_ok (k := 514) (by decide +kernel)) (by show plainB _ 0 = true; decide +kernel) (by decide) (by decide) (Or.inl ⟨9, 13, TX11, rfl, C.kd⟩) (by decide) (by decide +kernel) (by show cs + 0 ≤ 601024; omega) (by show ss + 0 ≤ 7293034; omega) (fun v h1 z => ?_)
  obtain ⟨e, g, C1⟩ := z
  cases e
  have M1 := M.gw B.1 g
  have B1 := B.gw hx hb g
  refine eh_aloadn (i := 2) (j := 2) rfl (by decide +kernel) rfl ?_
  show EvH G m_law hh 1412 (lc b x i) (([] : List Value).reverse ++ .ref (x + 192) :: [.int y]) h1 (cs + 0) (ss + 0) P
  refine eh_callN (q := m_Mo_escheat) (idx := 208) (EM h1 M1 B1.2.1 B1.2.2.1) (fun E h' z => nomatch z.1) (wd_ok (k := 2113) (by decide +kernel)) (wd_ok (k := 2110) (by decide +kernel)) (wd_ok (k := 144) (by decide +kernel)) (wd_ok (k := 2111) (by decide +kernel)) (wd_ok (k := 2112) (by decide +kernel)) (by show plainB _ 0 = true; decide +kernel) (by decide) (by decide) (Or.inl ⟨10, 25, TX12, rfl, M1.kd⟩) (by show 1 ≤ 8; decide) (by decide +kernel) (by show cs + 0 + 0 ≤ 601024; omega) (by show ss + 0 + 0 ≤ 7293034; omega) (fun v h2 z => ?_)
  obtain ⟨e, F, M2⟩ := z
  cases e
  exact eh_icmp_eq (off := 1205) (tgt := 2620) (by decide +kernel) rfl (fun _ => K h2 S' _ _ (C1.fs F) M2 A' (B1.fs hx hb F) (by show cs + 0 + 0 ≤ cs + 6; omega) (by show ss + 0 + 0 ≤ ss + 847; omega)) (fun n => absurd rfl n)
theorem k_watch (hl : G.1.stackTraces = false) (hx : G.n0 ≤ x) (hb : b < G.n0) (hL : L ≤ 3072) (hi : i + 6 ≤ L) (C : CS G h x S) (M : MS G h (x + 192) S) (A : AbOk S) (B : LB G x tk b L xs h) (hc : cs + 6 ≤ 601024) (hs : ss + 847 ≤ 7293034) (K : Nx G hh x tk b L xs i cs ss P) : EvH G m_law hh 1420 (lc b x i) [] h cs ss P := by
  refine eh_aloadn (i := 1) (j := 1) rfl (by decide +kernel) rfl ?_
  obtain ⟨v0, S', iv, A', EC, EM⟩ := j_watch (tk := tk) hl hx h S C A B.1 B.2.1
  obtain ⟨y, rfl⟩ : ∃ y, v0 = some (.int y) := iv
  show EvH G m_law hh 1421 (lc b x i) (([] : List Value).reverse ++ .ref x :: []) h cs ss P
  refine eh_callN (q := m_Gr_watch) (idx := 209) EC (fun E h' z => nomatch z.1) (wd_ok (k := 527) (by decide +kernel)) (wd_ok (k := 524) (by decide +kernel)) (wd_ok (k := 134) (by decide +kernel)) (wd_ok (k := 525) (by decide +kernel)) (wd_ok (k := 526) (by decide +kernel)) (by show plainB _ 0 = true; decide +kernel) (by decide) (by decide) (Or.inl ⟨9, 13, TX11, rfl, C.kd⟩) (by decide) (by decide +kernel) (by show cs + 0 ≤ 601024; omega) (by show ss + 0 ≤ 7293034; omega) (fun v h1 z => ?_)
  obtain ⟨e, g, C1⟩ := z
  cases e
  have M1 := M.gw B.1 g
  have B1 := B.gw hx hb g
  refine eh_aloadn (i := 2) (j := 2) rfl (by decide +kernel) rfl ?_
  show EvH G m_law hh 1425 (lc b x i) (([] : List Value).reverse ++ .ref (x + 192) :: [.int y]) h1 (cs + 0) (ss + 0) P
  refine eh_callN (q := m_Mo_watch) (idx := 212) (EM h1 M1 B1.2.1 B1.2.2.1) (fun E h' z => nomatch z.1) (wd_ok (k := 2117) (by decide +kernel)) (wd_ok (k := 2114) (by decide +kernel)) (wd_ok (k := 144) (by decide +kernel)) (wd_ok (k := 2115) (by decide +kernel)) (wd_ok (k := 2116) (by decide +kernel)) (by show plainB _ 0 = true; decide +kernel) (by decide) (by decide) (Or.inl ⟨10, 25, TX12, rfl, M1.kd⟩) (by show 1 ≤ 8; decide) (by decide +kernel) (by show cs + 0 + 0 ≤ 601024; omega) (by show ss + 0 + 0 ≤ 7293034; omega) (fun v h2 z => ?_)
  obtain ⟨e, F, M2⟩ := z
  cases e
  exact eh_icmp_eq (off := 1192) (tgt := 2620) (by decide +kernel) rfl (fun _ => K h2 S' _ _ (C1.fs F) M2 A' (B1.fs hx hb F) (by show cs + 0 + 0 ≤ cs + 6; omega) (by show ss + 0 + 0 ≤ ss + 847; omega)) (fun n => absurd rfl n)
theorem k_put (hl : G.1.stackTraces = false) (hx : G.n0 ≤ x) (hb : b < G.n0) (hL : L ≤ 3072) (hi : i + 6 ≤ L) (C : CS G h x S) (M : MS G h (x + 192) S) (A : AbOk S) (B : LB G x tk b L xs h) (hc : cs + 6 ≤ 601024) (hs : ss + 847 ≤ 7293034) (K : Nx G hh x tk b L xs i cs ss P) : EvH G m_law hh 1433 (lc b x i) [] h cs ss P := by
  refine eh_aloadn (i := 1) (j := 1) rfl (by decide +kernel) rfl ?_
  refine la_arg (k := 1) (by decide +kernel) rfl rfl rfl (by omega) hL B ?_
  obtain ⟨q, S', kq, A', EC, EM⟩ := j_put (tk := tk) hl hx (xs (i + 1)) h S C A B.1 B.2.1
  refine eh_aloadn (i := 3) (j := 3) rfl (by decide +kernel) rfl ?_
  show EvH G m_law hh 1441 (lc b x i) (([.ref x, .int (xs (i + 1)), .ref (x + 208)] : List Value).reverse ++ []) h cs ss P
  refine eh_callS (q := m_Lw_put) (hq := hh_Lw_put) (idx := 213) (h_Lw_put (out := x + 208) EC C.kd (by omega) (fun v h' z => cc_v B z) (fun E h' z => by have w := cc_in kq z; simp only [cs_Lw_put, List.mem_cons, List.not_mem_nil, or_false, Prod.mk.injEq] at w; exact w.1)) (fun E h' => hq_no E h') (wd_ok (k := 1325) (by decide +kernel)) (wd_ok (k := 1323) (by decide +kernel)) (wd_ok (k := 133) (by decide +kernel)) (wd_ok (k := 1324) (by decide +kernel)) (by show plainB _ 3 = true; decide +kernel) (by decide) (by decide) (by decide) (by decide +kernel) (by show cs + 1 ≤ 601024; omega) (by show ss + 6 ≤ 7293034; omega) (fun v h1 z => ?_)
  obtain ⟨e, C1, M1, B1, w1⟩ := mid hx hb kq M B z
  cases e
  refine eh_istore (i := 5) (by decide +kernel) (by decide) ?_
  refine eh_aloadn (i := 2) (j := 2) rfl (by decide +kernel) rfl ?_
  refine la_arg (k := 1) (by decide +kernel) rfl rfl rfl (by omega) hL B1 ?_
  show EvH G m_law hh 1453 ((lc b x i).set 5 (.int q.1)) (([.int (xs (i + 1))] : List Value).reverse ++ .ref (x + 192) :: []) h1 (cs + 1) (ss + 6) P
  refine eh_callN (q := m_Mo_put) (idx := 215) (EM h1 M1 B1.2.1 B1.2.2.1) (fun E h' => mm_no E h') (wd_ok (k := 2125) (by decide +kernel)) (wd_ok (k := 2122) (by decide +kernel)) (wd_ok (k := 144) (by decide +kernel)) (wd_ok (k := 2123) (by decide +kernel)) (wd_ok (k := 2124) (by decide +kernel)) (by show plainB _ 1 = true; decide +kernel) (by decide) (by decide) (Or.inl ⟨10, 25, TX12, rfl, M1.kd⟩) (by decide) (by decide +kernel) (by show cs + 1 + 0 ≤ 601024; omega) (by show ss + 6 + 0 ≤ 7293034; omega) (fun v h2 z => ?_)
  obtain ⟨e, t0, F, M2⟩ := z
  cases e
  have w2 : h2.2.1 (x + 208) 0 = h1.2.1 (x + 208) 0 := F.2.2 _ _ (by unfold mZ; omega)
  refine eh_istore (i := 6) (by decide +kernel) (by decide) ?_
  exact la_tail (p := 1458) (off := 1134) hl (by decide +kernel) (by decide) M2 (B1.fs hx hb F) t0 (fun c => by rw [w2]; exact w1 c) (by show cs + 1 + 0 ≤ 601024; omega) (by show ss + 6 + 0 ≤ 7293034; omega) (K h2 S' _ _ (C1.fs F) M2 A' (B1.fs hx hb F) (by show cs + 1 + 0 ≤ cs + 6; omega) (by show ss + 6 + 0 ≤ ss + 847; omega))
theorem k_held (hl : G.1.stackTraces = false) (hx : G.n0 ≤ x) (hb : b < G.n0) (hL : L ≤ 3072) (hi : i + 6 ≤ L) (C : CS G h x S) (M : MS G h (x + 192) S) (A : AbOk S) (B : LB G x tk b L xs h) (hc : cs + 6 ≤ 601024) (hs : ss + 847 ≤ 7293034) (K : Nx G hh x tk b L xs i cs ss P) : EvH G m_law hh 1489 (lc b x i) [] h cs ss P := by
  refine eh_aloadn (i := 1) (j := 1) rfl (by decide +kernel) rfl ?_
  obtain ⟨q, S', kq, A', EC, EM⟩ := j_held (tk := tk) hl hx h S C A B.1 B.2.1
  refine eh_aloadn (i := 3) (j := 3) rfl (by decide +kernel) rfl ?_
  show EvH G m_law hh 1491 (lc b x i) (([.ref x, .ref (x + 208)] : List Value).reverse ++ []) h cs ss P
  refine eh_callS (q := m_Lw_held) (hq := hh_Lw_held) (idx := 216) (h_Lw_held (out := x + 208) EC C.kd (by omega) (fun v h' z => cc_v B z) (fun E h' z => by have w := cc_in kq z; simp only [cs_Lw_held, List.mem_cons, List.not_mem_nil, or_false, Prod.mk.injEq] at w; exact w.1)) (fun E h' => hq_no E h') (wd_ok (k := 1357) (by decide +kernel)) (wd_ok (k := 1355) (by decide +kernel)) (wd_ok (k := 133) (by decide +kernel)) (wd_ok (k := 1356) (by decide +kernel)) (by show plainB _ 2 = true; decide +kernel) (by decide) (by decide) (by decide) (by decide +kernel) (by show cs + 1 ≤ 601024; omega) (by show ss + 6 ≤ 7293034; omega) (fun v h1 z => ?_)
  obtain ⟨e, C1, M1, B1, w1⟩ := mid hx hb kq M B z
  cases e
  refine eh_istore (i := 5) (by decide +kernel) (by decide) ?_
  refine eh_aloadn (i := 2) (j := 2) rfl (by decide +kernel) rfl ?_
  show EvH G m_law hh 1497 ((lc b x i).set 5 (.int q.1)) (([] : List Value).reverse ++ .ref (x + 192) :: []) h1 (cs + 1) (ss + 6) P
  refine eh_callN (q := m_Mo_held) (idx := 218) (EM h1 M1 B1.2.1 B1.2.2.1) (fun E h' => mm_no E h') (wd_ok (k := 2136) (by decide +kernel)) (wd_ok (k := 2133) (by decide +kernel)) (wd_ok (k := 144) (by decide +kernel)) (wd_ok (k := 2134) (by decide +kernel)) (wd_ok (k := 2135) (by decide +kernel)) (by show plainB _ 0 = true; decide +kernel) (by decide) (by decide) (Or.inl ⟨10, 25, TX12, rfl, M1.kd⟩) (by decide) (by decide +kernel) (by show cs + 1 + 0 ≤ 601024; omega) (by show ss + 6 + 0 ≤ 7293034; omega) (fun v h2 z => ?_)
  obtain ⟨e, t0, F, M2⟩ := z
  cases e
  have w2 : h2.2.1 (x + 208) 0 = h1.2.1 (x + 208) 0 := F.2.2 _ _ (by unfold mZ; omega)
  refine eh_istore (i := 6) (by decide +kernel) (by decide) ?_
  exact la_tail (p := 1502) (off := 1090) hl (by decide +kernel) (by decide) M2 (B1.fs hx hb F) t0 (fun c => by rw [w2]; exact w1 c) (by show cs + 1 + 0 ≤ 601024; omega) (by show ss + 6 + 0 ≤ 7293034; omega) (K h2 S' _ _ (C1.fs F) M2 A' (B1.fs hx hb F) (by show cs + 1 + 0 ≤ cs + 6; omega) (by show ss + 6 + 0 ≤ ss + 847; omega))
theorem k_likely (hl : G.1.stackTraces = false) (hx : G.n0 ≤ x) (hb : b < G.n0) (hL : L ≤ 3072) (hi : i + 6 ≤ L) (C : CS G h x S) (M : MS G h (x + 192) S) (A : AbOk S) (B : LB G x tk b L xs h) (hc : cs + 6 ≤ 601024) (hs : ss + 847 ≤ 7293034) (K : Nx G hh x tk b L xs i cs ss P) : EvH G m_law hh 1533 (lc b x i) [] h cs ss P := by
  refine eh_aloadn (i := 1) (j := 1) rfl (by decide +kernel) rfl ?_
  obtain ⟨q, S', kq, A', EC, EM⟩ := j_likely (tk := tk) hl hx h S C A B.1 B.2.1
  refine eh_aloadn (i := 3) (j := 3) rfl (by decide +kernel) rfl ?_
  show EvH G m_law hh 1535 (lc b x i) (([.ref x, .ref (x + 208)] : List Value).reverse ++ []) h cs ss P
  refine eh_callS (q := m_Lw_likely) (hq := hh_Lw_likely) (idx := 219) (h_Lw_likely (out := x + 208) EC C.kd (by omega) (fun v h' z => cc_v B z) (fun E h' z => by have w := cc_in kq z; simp only [cs_Lw_likely, List.mem_cons, List.not_mem_nil, or_false, Prod.mk.injEq] at w; exact w.1)) (fun E h' => hq_no E h') (wd_ok (k := 1380) (by decide +kernel)) (wd_ok (k := 1378) (by decide +kernel)) (wd_ok (k := 133) (by decide +kernel)) (wd_ok (k := 1379) (by decide +kernel)) (by show plainB _ 2 = true; decide +kernel) (by decide) (by decide) (by decide) (by decide +kernel) (by show cs + 1 ≤ 601024; omega) (by show ss + 6 ≤ 7293034; omega) (fun v h1 z => ?_)
  obtain ⟨e, C1, M1, B1, w1⟩ := mid hx hb kq M B z
  cases e
  refine eh_istore (i := 5) (by decide +kernel) (by decide) ?_
  refine eh_aloadn (i := 2) (j := 2) rfl (by decide +kernel) rfl ?_
  show EvH G m_law hh 1541 ((lc b x i).set 5 (.int q.1)) (([] : List Value).reverse ++ .ref (x + 192) :: []) h1 (cs + 1) (ss + 6) P
  refine eh_callN (q := m_Mo_likely) (idx := 221) (EM h1 M1 B1.2.1 B1.2.2.1) (fun E h' => mm_no E h') (wd_ok (k := 2156) (by decide +kernel)) (wd_ok (k := 2153) (by decide +kernel)) (wd_ok (k := 144) (by decide +kernel)) (wd_ok (k := 2154) (by decide +kernel)) (wd_ok (k := 2155) (by decide +kernel)) (by show plainB _ 0 = true; decide +kernel) (by decide) (by decide) (Or.inl ⟨10, 25, TX12, rfl, M1.kd⟩) (by decide) (by decide +kernel) (by show cs + 1 + 0 ≤ 601024; omega) (by show ss + 6 + 0 ≤ 7293034; omega) (fun v h2 z => ?_)
  obtain ⟨e, t0, F, M2⟩ := z
  cases e
  have w2 : h2.2.1 (x + 208) 0 = h1.2.1 (x + 208) 0 := F.2.2 _ _ (by unfold mZ; omega)
  refine eh_istore (i := 6) (by decide +kernel) (by decide) ?_
  exact la_tail (p := 1546) (off := 1046) hl (by decide +kernel) (by decide) M2 (B1.fs hx hb F) t0 (fun c => by rw [w2]; exact w1 c) (by show cs + 1 + 0 ≤ 601024; omega) (by show ss + 6 + 0 ≤ 7293034; omega) (K h2 S' _ _ (C1.fs F) M2 A' (B1.fs hx hb F) (by show cs + 1 + 0 ≤ cs + 6; omega) (by show ss + 6 + 0 ≤ ss + 847; omega))
theorem k_ask (hl : G.1.stackTraces = false) (hx : G.n0 ≤ x) (hb : b < G.n0) (hL : L ≤ 3072) (hi : i + 6 ≤ L) (C : CS G h x S) (M : MS G h (x + 192) S) (A : AbOk S) (B : LB G x tk b L xs h) (hc : cs + 6 ≤ 601024) (hs : ss + 847 ≤ 7293034) (K : Nx G hh x tk b L xs i cs ss P) : EvH G m_law hh 1577 (lc b x i) [] h cs ss P := by
  refine eh_aloadn (i := 1) (j := 1) rfl (by decide +kernel) rfl ?_
  obtain ⟨q, S', kq, A', EC, EM⟩ := j_ask (tk := tk) hl hx h S C A B.1 B.2.1
  refine eh_aloadn (i := 3) (j := 3) rfl (by decide +kernel) rfl ?_
  show EvH G m_law hh 1579 (lc b x i) (([.ref x, .ref (x + 208)] : List Value).reverse ++ []) h cs ss P
  refine eh_callS (q := m_Lw_ask) (hq := hh_Lw_ask) (idx := 222) (h_Lw_ask (out := x + 208) EC C.kd (by omega) (fun v h' z => cc_v B z) (fun E h' z => by have w := cc_in kq z; simp only [cs_Lw_ask, List.mem_cons, List.not_mem_nil, or_false, Prod.mk.injEq] at w; exact w.1)) (fun E h' => hq_no E h') (wd_ok (k := 1390) (by decide +kernel)) (wd_ok (k := 1388) (by decide +kernel)) (wd_ok (k := 133) (by decide +kernel)) (wd_ok (k := 1389) (by decide +kernel)) (by show plainB _ 2 = true; decide +kernel) (by decide) (by decide) (by decide) (by decide +kernel) (by show cs + 1 ≤ 601024; omega) (by show ss + 6 ≤ 7293034; omega) (fun v h1 z => ?_)
  obtain ⟨e, C1, M1, B1, w1⟩ := mid hx hb kq M B z
  cases e
  refine eh_istore (i := 5) (by decide +kernel) (by decide) ?_
  refine eh_aloadn (i := 2) (j := 2) rfl (by decide +kernel) rfl ?_
  show EvH G m_law hh 1585 ((lc b x i).set 5 (.int q.1)) (([] : List Value).reverse ++ .ref (x + 192) :: []) h1 (cs + 1) (ss + 6) P
  refine eh_callN (q := m_Mo_ask) (idx := 224) (EM h1 M1 B1.2.1 B1.2.2.1) (fun E h' => mm_no E h') (wd_ok (k := 2160) (by decide +kernel)) (wd_ok (k := 2157) (by decide +kernel)) (wd_ok (k := 144) (by decide +kernel)) (wd_ok (k := 2158) (by decide +kernel)) (wd_ok (k := 2159) (by decide +kernel)) (by show plainB _ 0 = true; decide +kernel) (by decide) (by decide) (Or.inl ⟨10, 25, TX12, rfl, M1.kd⟩) (by decide) (by decide +kernel) (by show cs + 1 + 0 ≤ 601024; omega) (by show ss + 6 + 0 ≤ 7293034; omega) (fun v h2 z => ?_)
  obtain ⟨e, t0, F, M2⟩ := z
  cases e
  have w2 : h2.2.1 (x + 208) 0 = h1.2.1 (x + 208) 0 := F.2.2 _ _ (by unfold mZ; omega)
  refine eh_istore (i := 6) (by decide +kernel) (by decide) ?_
  exact la_tail (p := 1590) (off := 1002) hl (by decide +kernel) (by decide) M2 (B1.fs hx hb F) t0 (fun c => by rw [w2]; exact w1 c) (by show cs + 1 + 0 ≤ 601024; omega) (by show ss + 6 + 0 ≤ 7293034; omega) (K h2 S' _ _ (C1.fs F) M2 A' (B1.fs hx hb F) (by show cs + 1 + 0 ≤ cs + 6; omega) (by show ss + 6 + 0 ≤ ss + 847; omega))
theorem k_strong (hl : G.1.stackTraces = false) (hx : G.n0 ≤ x) (hb : b < G.n0) (hL : L ≤ 3072) (hi : i + 6 ≤ L) (C : CS G h x S) (M : MS G h (x + 192) S) (A : AbOk S) (B : LB G x tk b L xs h) (hc : cs + 6 ≤ 601024) (hs : ss + 847 ≤ 7293034) (K : Nx G hh x tk b L xs i cs ss P) : EvH G m_law hh 1621 (lc b x i) [] h cs ss P := by
  refine eh_aloadn (i := 1) (j := 1) rfl (by decide +kernel) rfl ?_
  refine la_arg (k := 1) (by decide +kernel) rfl rfl rfl (by omega) hL B ?_
  refine la_bz (by decide +kernel) ?_
  obtain ⟨q, S', kq, A', EC, EM⟩ := j_strong (tk := tk) hl hx (bz (xs (i + 1))) h S C A B.1 B.2.1
  refine eh_aloadn (i := 3) (j := 3) rfl (by decide +kernel) rfl ?_
  show EvH G m_law hh 1637 (lc b x i) (([.ref x, .int (bz (xs (i + 1))), .ref (x + 208)] : List Value).reverse ++ []) h cs ss P
  refine eh_callS (q := m_Lw_strong) (hq := hh_Lw_strong) (idx := 225) (h_Lw_strong (out := x + 208) EC C.kd (by omega) (fun v h' z => cc_v B z) (fun E h' z => by have w := cc_in kq z; simp only [cs_Lw_strong, List.mem_cons, List.not_mem_nil, or_false, Prod.mk.injEq] at w; exact w.1)) (fun E h' => hq_no E h') (wd_ok (k := 1405) (by decide +kernel)) (wd_ok (k := 1403) (by decide +kernel)) (wd_ok (k := 133) (by decide +kernel)) (wd_ok (k := 1404) (by decide +kernel)) (by show plainB _ 3 = true; decide +kernel) (by decide) (by decide) (by decide) (by decide +kernel) (by show cs + 1 ≤ 601024; omega) (by show ss + 6 ≤ 7293034; omega) (fun v h1 z => ?_)
  obtain ⟨e, C1, M1, B1, w1⟩ := mid hx hb kq M B z
  cases e
  refine eh_istore (i := 5) (by decide +kernel) (by decide) ?_
  refine eh_aloadn (i := 2) (j := 2) rfl (by decide +kernel) rfl ?_
  refine la_arg (k := 1) (by decide +kernel) rfl rfl rfl (by omega) hL B1 ?_
  refine la_bz (by decide +kernel) ?_
  show EvH G m_law hh 1657 ((lc b x i).set 5 (.int q.1)) (([.int (bz (xs (i + 1)))] : List Value).reverse ++ .ref (x + 192) :: []) h1 (cs + 1) (ss + 6) P
  refine eh_callN (q := m_Mo_strong) (idx := 228) (EM h1 M1 B1.2.1 B1.2.2.1) (fun E h' => mm_no E h') (wd_ok (k := 2169) (by decide +kernel)) (wd_ok (k := 2166) (by decide +kernel)) (wd_ok (k := 144) (by decide +kernel)) (wd_ok (k := 2167) (by decide +kernel)) (wd_ok (k := 2168) (by decide +kernel)) (by show plainB _ 1 = true; decide +kernel) (by decide) (by decide) (Or.inl ⟨10, 25, TX12, rfl, M1.kd⟩) (by decide) (by decide +kernel) (by show cs + 1 + 0 ≤ 601024; omega) (by show ss + 6 + 0 ≤ 7293034; omega) (fun v h2 z => ?_)
  obtain ⟨e, t0, F, M2⟩ := z
  cases e
  have w2 : h2.2.1 (x + 208) 0 = h1.2.1 (x + 208) 0 := F.2.2 _ _ (by unfold mZ; omega)
  refine eh_istore (i := 6) (by decide +kernel) (by decide) ?_
  exact la_tail (p := 1662) (off := 930) hl (by decide +kernel) (by decide) M2 (B1.fs hx hb F) t0 (fun c => by rw [w2]; exact w1 c) (by show cs + 1 + 0 ≤ 601024; omega) (by show ss + 6 + 0 ≤ 7293034; omega) (K h2 S' _ _ (C1.fs F) M2 A' (B1.fs hx hb F) (by show cs + 1 + 0 ≤ cs + 6; omega) (by show ss + 6 + 0 ≤ ss + 847; omega))
theorem k_test (hl : G.1.stackTraces = false) (hx : G.n0 ≤ x) (hb : b < G.n0) (hL : L ≤ 3072) (hi : i + 6 ≤ L) (C : CS G h x S) (M : MS G h (x + 192) S) (A : AbOk S) (B : LB G x tk b L xs h) (hc : cs + 6 ≤ 601024) (hs : ss + 847 ≤ 7293034) (K : Nx G hh x tk b L xs i cs ss P) : EvH G m_law hh 1693 (lc b x i) [] h cs ss P := by
  refine eh_aloadn (i := 1) (j := 1) rfl (by decide +kernel) rfl ?_
  obtain ⟨q, S', kq, A', EC, EM⟩ := j_test (tk := tk) hl hx h S C A B.1 B.2.1
  refine eh_aloadn (i := 3) (j := 3) rfl (by decide +kernel) rfl ?_
  show EvH G m_law hh 1695 (lc b x i) (([.ref x, .ref (x + 208)] : List Value).reverse ++ []) h cs ss P
  refine eh_callS (q := m_Lw_test) (hq := hh_Lw_test) (idx := 229) (h_Lw_test (out := x + 208) EC C.kd (by omega) (fun v h' z => cc_v B z) (fun E h' z => by have w := cc_in kq z; simp only [cs_Lw_test, List.mem_cons, List.not_mem_nil, or_false, Prod.mk.injEq] at w; exact w.1)) (fun E h' => hq_no E h') (wd_ok (k := 1424) (by decide +kernel)) (wd_ok (k := 1422) (by decide +kernel)) (wd_ok (k := 133) (by decide +kernel)) (wd_ok (k := 1423) (by decide +kernel)) (by show plainB _ 2 = true; decide +kernel) (by decide) (by decide) (by decide) (by decide +kernel) (by show cs + 1 ≤ 601024; omega) (by show ss + 6 ≤ 7293034; omega) (fun v h1 z => ?_)
  obtain ⟨e, C1, M1, B1, w1⟩ := mid hx hb kq M B z
  cases e
  refine eh_istore (i := 5) (by decide +kernel) (by decide) ?_
  refine eh_aloadn (i := 2) (j := 2) rfl (by decide +kernel) rfl ?_
  show EvH G m_law hh 1701 ((lc b x i).set 5 (.int q.1)) (([] : List Value).reverse ++ .ref (x + 192) :: []) h1 (cs + 1) (ss + 6) P
  refine eh_callN (q := m_Mo_test) (idx := 231) (EM h1 M1 B1.2.1 B1.2.2.1) (fun E h' => mm_no E h') (wd_ok (k := 2185) (by decide +kernel)) (wd_ok (k := 2182) (by decide +kernel)) (wd_ok (k := 144) (by decide +kernel)) (wd_ok (k := 2183) (by decide +kernel)) (wd_ok (k := 2184) (by decide +kernel)) (by show plainB _ 0 = true; decide +kernel) (by decide) (by decide) (Or.inl ⟨10, 25, TX12, rfl, M1.kd⟩) (by decide) (by decide +kernel) (by show cs + 1 + 0 ≤ 601024; omega) (by show ss + 6 + 0 ≤ 7293034; omega) (fun v h2 z => ?_)
  obtain ⟨e, t0, F, M2⟩ := z
  cases e
  have w2 : h2.2.1 (x + 208) 0 = h1.2.1 (x + 208) 0 := F.2.2 _ _ (by unfold mZ; omega)
  refine eh_istore (i := 6) (by decide +kernel) (by decide) ?_
  exact la_tail (p := 1706) (off := 886) hl (by decide +kernel) (by decide) M2 (B1.fs hx hb F) t0 (fun c => by rw [w2]; exact w1 c) (by show cs + 1 + 0 ≤ 601024; omega) (by show ss + 6 + 0 ≤ 7293034; omega) (K h2 S' _ _ (C1.fs F) M2 A' (B1.fs hx hb F) (by show cs + 1 + 0 ≤ cs + 6; omega) (by show ss + 6 + 0 ≤ ss + 847; omega))
theorem k_fingers (hl : G.1.stackTraces = false) (hx : G.n0 ≤ x) (hb : b < G.n0) (hL : L ≤ 3072) (hi : i + 6 ≤ L) (C : CS G h x S) (M : MS G h (x + 192) S) (A : AbOk S) (B : LB G x tk b L xs h) (hc : cs + 6 ≤ 601024) (hs : ss + 847 ≤ 7293034) (K : Nx G hh x tk b L xs i cs ss P) : EvH G m_law hh 1737 (lc b x i) [] h cs ss P := by
  refine eh_aloadn (i := 1) (j := 1) rfl (by decide +kernel) rfl ?_
  refine la_arg (k := 1) (by decide +kernel) rfl rfl rfl (by omega) hL B ?_
  obtain ⟨q, S', kq, qb, A', EC, EM⟩ := j_fingers (tk := tk) hl hx (xs (i + 1)) h S C A B.1 B.2.1
  refine eh_aloadn (i := 3) (j := 3) rfl (by decide +kernel) rfl ?_
  show EvH G m_law hh 1745 (lc b x i) (([.ref x, .int (xs (i + 1)), .ref (x + 208)] : List Value).reverse ++ []) h cs ss P
  refine eh_callS (q := m_Lw_fingers) (hq := hh_Lw_fingers) (idx := 232) (h_Lw_fingers (out := x + 208) EC C.kd (by omega) (fun v h' z => cc_vb B qb z) (fun E h' z => by have w := cc_in kq z; simp only [cs_Lw_fingers, List.mem_cons, List.not_mem_nil, or_false, Prod.mk.injEq] at w; exact w.1)) (fun E h' => hq_no E h') (wd_ok (k := 1434) (by decide +kernel)) (wd_ok (k := 1432) (by decide +kernel)) (wd_ok (k := 133) (by decide +kernel)) (wd_ok (k := 1433) (by decide +kernel)) (by show plainB _ 3 = true; decide +kernel) (by decide) (by decide) (by decide) (by decide +kernel) (by show cs + 1 ≤ 601024; omega) (by show ss + 6 ≤ 7293034; omega) (fun v h1 z => ?_)
  obtain ⟨e, C1, M1, B1, w1⟩ := mid hx hb kq M B z
  cases e
  refine eh_istore (i := 5) (by decide +kernel) (by decide) ?_
  refine eh_aloadn (i := 2) (j := 2) rfl (by decide +kernel) rfl ?_
  refine la_arg (k := 1) (by decide +kernel) rfl rfl rfl (by omega) hL B1 ?_
  show EvH G m_law hh 1757 ((lc b x i).set 5 (.int q.1)) (([.int (xs (i + 1))] : List Value).reverse ++ .ref (x + 192) :: []) h1 (cs + 1) (ss + 6) P
  refine eh_callN (q := m_Mo_fingers) (idx := 234) (EM h1 M1 B1.2.1 B1.2.2.1) (fun E h' => mm_no E h') (wd_ok (k := 2189) (by decide +kernel)) (wd_ok (k := 2186) (by decide +kernel)) (wd_ok (k := 144) (by decide +kernel)) (wd_ok (k := 2187) (by decide +kernel)) (wd_ok (k := 2188) (by decide +kernel)) (by show plainB _ 1 = true; decide +kernel) (by decide) (by decide) (Or.inl ⟨10, 25, TX12, rfl, M1.kd⟩) (by decide) (by decide +kernel) (by show cs + 1 + 0 ≤ 601024; omega) (by show ss + 6 + 0 ≤ 7293034; omega) (fun v h2 z => ?_)
  obtain ⟨e, t0, F, M2⟩ := z
  cases e
  have w2 : h2.2.1 (x + 208) 0 = h1.2.1 (x + 208) 0 := F.2.2 _ _ (by unfold mZ; omega)
  refine eh_istore (i := 6) (by decide +kernel) (by decide) ?_
  exact la_tailb (p := 1762) (off := 823) hl (by decide +kernel) (by decide) M2 (B1.fs hx hb F) t0 qb (fun c => by rw [w2]; exact w1 c) (by show cs + 1 + 0 ≤ 601024; omega) (by show ss + 6 + 0 ≤ 7293034; omega) (K h2 S' _ _ (C1.fs F) M2 A' (B1.fs hx hb F) (by show cs + 1 + 0 ≤ cs + 6; omega) (by show ss + 6 + 0 ≤ ss + 847; omega))
theorem k_opens (hl : G.1.stackTraces = false) (hx : G.n0 ≤ x) (hb : b < G.n0) (hL : L ≤ 3072) (hi : i + 6 ≤ L) (C : CS G h x S) (M : MS G h (x + 192) S) (A : AbOk S) (B : LB G x tk b L xs h) (hc : cs + 6 ≤ 601024) (hs : ss + 847 ≤ 7293034) (K : Nx G hh x tk b L xs i cs ss P) : EvH G m_law hh 1800 (lc b x i) [] h cs ss P := by
  refine eh_aloadn (i := 1) (j := 1) rfl (by decide +kernel) rfl ?_
  refine la_arg (k := 1) (by decide +kernel) rfl rfl rfl (by omega) hL B ?_
  obtain ⟨q, S', kq, A', EC, EM⟩ := j_opens (tk := tk) hl hx (xs (i + 1)) h S C A B.1 B.2.1
  refine eh_aloadn (i := 3) (j := 3) rfl (by decide +kernel) rfl ?_
  show EvH G m_law hh 1808 (lc b x i) (([.ref x, .int (xs (i + 1)), .ref (x + 208)] : List Value).reverse ++ []) h cs ss P
  refine eh_callS (q := m_Lw_opens) (hq := hh_Lw_opens) (idx := 235) (h_Lw_opens (out := x + 208) EC C.kd (by omega) (fun v h' z => cc_v B z) (fun E h' z => by have w := cc_in kq z; simp only [cs_Lw_opens, List.mem_cons, List.not_mem_nil, or_false, Prod.mk.injEq] at w; exact w.1)) (fun E h' => hq_no E h') (wd_ok (k := 1448) (by decide +kernel)) (wd_ok (k := 1446) (by decide +kernel)) (wd_ok (k := 133) (by decide +kernel)) (wd_ok (k := 1447) (by decide +kernel)) (by show plainB _ 3 = true; decide +kernel) (by decide) (by decide) (by decide) (by decide +kernel) (by show cs + 1 ≤ 601024; omega) (by show ss + 6 ≤ 7293034; omega) (fun v h1 z => ?_)
  obtain ⟨e, C1, M1, B1, w1⟩ := mid hx hb kq M B z
  cases e
  refine eh_istore (i := 5) (by decide +kernel) (by decide) ?_
  refine eh_aloadn (i := 2) (j := 2) rfl (by decide +kernel) rfl ?_
  refine la_arg (k := 1) (by decide +kernel) rfl rfl rfl (by omega) hL B1 ?_
  show EvH G m_law hh 1820 ((lc b x i).set 5 (.int q.1)) (([.int (xs (i + 1))] : List Value).reverse ++ .ref (x + 192) :: []) h1 (cs + 1) (ss + 6) P
  refine eh_callN (q := m_Mo_opens) (idx := 237) (EM h1 M1 B1.2.1 B1.2.2.1) (fun E h' => mm_no E h') (wd_ok (k := 2201) (by decide +kernel)) (wd_ok (k := 2198) (by decide +kernel)) (wd_ok (k := 144) (by decide +kernel)) (wd_ok (k := 2199) (by decide +kernel)) (wd_ok (k := 2200) (by decide +kernel)) (by show plainB _ 1 = true; decide +kernel) (by decide) (by decide) (Or.inl ⟨10, 25, TX12, rfl, M1.kd⟩) (by decide) (by decide +kernel) (by show cs + 1 + 0 ≤ 601024; omega) (by show ss + 6 + 0 ≤ 7293034; omega) (fun v h2 z => ?_)
  obtain ⟨e, t0, F, M2⟩ := z
  cases e
  have w2 : h2.2.1 (x + 208) 0 = h1.2.1 (x + 208) 0 := F.2.2 _ _ (by unfold mZ; omega)
  refine eh_istore (i := 6) (by decide +kernel) (by decide) ?_
  exact la_tail (p := 1825) (off := 767) hl (by decide +kernel) (by decide) M2 (B1.fs hx hb F) t0 (fun c => by rw [w2]; exact w1 c) (by show cs + 1 + 0 ≤ 601024; omega) (by show ss + 6 + 0 ≤ 7293034; omega) (K h2 S' _ _ (C1.fs F) M2 A' (B1.fs hx hb F) (by show cs + 1 + 0 ≤ cs + 6; omega) (by show ss + 6 + 0 ≤ ss + 847; omega))
theorem k_pairs (hl : G.1.stackTraces = false) (hx : G.n0 ≤ x) (hb : b < G.n0) (hL : L ≤ 3072) (hi : i + 6 ≤ L) (C : CS G h x S) (M : MS G h (x + 192) S) (A : AbOk S) (B : LB G x tk b L xs h) (hc : cs + 6 ≤ 601024) (hs : ss + 847 ≤ 7293034) (K : Nx G hh x tk b L xs i cs ss P) : EvH G m_law hh 1856 (lc b x i) [] h cs ss P := by
  refine eh_aloadn (i := 1) (j := 1) rfl (by decide +kernel) rfl ?_
  refine la_arg (k := 1) (by decide +kernel) rfl rfl rfl (by omega) hL B ?_
  obtain ⟨q, S', kq, A', EC, EM⟩ := j_pairs (tk := tk) hl hx (xs (i + 1)) h S C A B.1 B.2.1
  refine eh_aloadn (i := 3) (j := 3) rfl (by decide +kernel) rfl ?_
  show EvH G m_law hh 1864 (lc b x i) (([.ref x, .int (xs (i + 1)), .ref (x + 208)] : List Value).reverse ++ []) h cs ss P
  refine eh_callS (q := m_Lw_pairs) (hq := hh_Lw_pairs) (idx := 238) (h_Lw_pairs (out := x + 208) EC C.kd (by omega) (fun v h' z => cc_v B z) (fun E h' z => by have w := cc_in kq z; simp only [cs_Lw_pairs, List.mem_cons, List.not_mem_nil, or_false, Prod.mk.injEq] at w; exact w.1)) (fun E h' => hq_no E h') (wd_ok (k := 1455) (by decide +kernel)) (wd_ok (k := 1453) (by decide +kernel)) (wd_ok (k := 133) (by decide +kernel)) (wd_ok (k := 1454) (by decide +kernel)) (by show plainB _ 3 = true; decide +kernel) (by decide) (by decide) (by decide) (by decide +kernel) (by show cs + 1 ≤ 601024; omega) (by show ss + 6 ≤ 7293034; omega) (fun v h1 z => ?_)
  obtain ⟨e, C1, M1, B1, w1⟩ := mid hx hb kq M B z
  cases e
  refine eh_istore (i := 5) (by decide +kernel) (by decide) ?_
  refine eh_aloadn (i := 2) (j := 2) rfl (by decide +kernel) rfl ?_
  refine la_arg (k := 1) (by decide +kernel) rfl rfl rfl (by omega) hL B1 ?_
  show EvH G m_law hh 1876 ((lc b x i).set 5 (.int q.1)) (([.int (xs (i + 1))] : List Value).reverse ++ .ref (x + 192) :: []) h1 (cs + 1) (ss + 6) P
  refine eh_callN (q := m_Mo_pairs) (idx := 240) (EM h1 M1 B1.2.1 B1.2.2.1) (fun E h' => mm_no E h') (wd_ok (k := 2205) (by decide +kernel)) (wd_ok (k := 2202) (by decide +kernel)) (wd_ok (k := 144) (by decide +kernel)) (wd_ok (k := 2203) (by decide +kernel)) (wd_ok (k := 2204) (by decide +kernel)) (by show plainB _ 1 = true; decide +kernel) (by decide) (by decide) (Or.inl ⟨10, 25, TX12, rfl, M1.kd⟩) (by decide) (by decide +kernel) (by show cs + 1 + 0 ≤ 601024; omega) (by show ss + 6 + 0 ≤ 7293034; omega) (fun v h2 z => ?_)
  obtain ⟨e, t0, F, M2⟩ := z
  cases e
  have w2 : h2.2.1 (x + 208) 0 = h1.2.1 (x + 208) 0 := F.2.2 _ _ (by unfold mZ; omega)
  refine eh_istore (i := 6) (by decide +kernel) (by decide) ?_
  exact la_tail (p := 1881) (off := 711) hl (by decide +kernel) (by decide) M2 (B1.fs hx hb F) t0 (fun c => by rw [w2]; exact w1 c) (by show cs + 1 + 0 ≤ 601024; omega) (by show ss + 6 + 0 ≤ 7293034; omega) (K h2 S' _ _ (C1.fs F) M2 A' (B1.fs hx hb F) (by show cs + 1 + 0 ≤ cs + 6; omega) (by show ss + 6 + 0 ≤ ss + 847; omega))
theorem k_rests (hl : G.1.stackTraces = false) (hx : G.n0 ≤ x) (hb : b < G.n0) (hL : L ≤ 3072) (hi : i + 6 ≤ L) (C : CS G h x S) (M : MS G h (x + 192) S) (A : AbOk S) (B : LB G x tk b L xs h) (hc : cs + 6 ≤ 601024) (hs : ss + 847 ≤ 7293034) (K : Nx G hh x tk b L xs i cs ss P) : EvH G m_law hh 1912 (lc b x i) [] h cs ss P := by
  refine eh_aloadn (i := 1) (j := 1) rfl (by decide +kernel) rfl ?_
  refine la_arg (k := 1) (by decide +kernel) rfl rfl rfl (by omega) hL B ?_
  obtain ⟨q, S', kq, A', EC, EM⟩ := j_rests (tk := tk) hl hx (xs (i + 1)) h S C A B.1 B.2.1
  refine eh_aloadn (i := 3) (j := 3) rfl (by decide +kernel) rfl ?_
  show EvH G m_law hh 1920 (lc b x i) (([.ref x, .int (xs (i + 1)), .ref (x + 208)] : List Value).reverse ++ []) h cs ss P
  refine eh_callS (q := m_Lw_rests) (hq := hh_Lw_rests) (idx := 241) (h_Lw_rests (out := x + 208) EC C.kd (by omega) (fun v h' z => cc_v B z) (fun E h' z => by have w := cc_in kq z; simp only [cs_Lw_rests, List.mem_cons, List.not_mem_nil, or_false, Prod.mk.injEq] at w; exact w.1)) (fun E h' => hq_no E h') (wd_ok (k := 1485) (by decide +kernel)) (wd_ok (k := 1483) (by decide +kernel)) (wd_ok (k := 133) (by decide +kernel)) (wd_ok (k := 1484) (by decide +kernel)) (by show plainB _ 3 = true; decide +kernel) (by decide) (by decide) (by decide) (by decide +kernel) (by show cs + 1 ≤ 601024; omega) (by show ss + 6 ≤ 7293034; omega) (fun v h1 z => ?_)
  obtain ⟨e, C1, M1, B1, w1⟩ := mid hx hb kq M B z
  cases e
  refine eh_istore (i := 5) (by decide +kernel) (by decide) ?_
  refine eh_aloadn (i := 2) (j := 2) rfl (by decide +kernel) rfl ?_
  refine la_arg (k := 1) (by decide +kernel) rfl rfl rfl (by omega) hL B1 ?_
  show EvH G m_law hh 1932 ((lc b x i).set 5 (.int q.1)) (([.int (xs (i + 1))] : List Value).reverse ++ .ref (x + 192) :: []) h1 (cs + 1) (ss + 6) P
  refine eh_callN (q := m_Mo_rests) (idx := 243) (EM h1 M1 B1.2.1 B1.2.2.1) (fun E h' => mm_no E h') (wd_ok (k := 2224) (by decide +kernel)) (wd_ok (k := 2221) (by decide +kernel)) (wd_ok (k := 144) (by decide +kernel)) (wd_ok (k := 2222) (by decide +kernel)) (wd_ok (k := 2223) (by decide +kernel)) (by show plainB _ 1 = true; decide +kernel) (by decide) (by decide) (Or.inl ⟨10, 25, TX12, rfl, M1.kd⟩) (by decide) (by decide +kernel) (by show cs + 1 + 0 ≤ 601024; omega) (by show ss + 6 + 0 ≤ 7293034; omega) (fun v h2 z => ?_)
  obtain ⟨e, t0, F, M2⟩ := z
  cases e
  have w2 : h2.2.1 (x + 208) 0 = h1.2.1 (x + 208) 0 := F.2.2 _ _ (by unfold mZ; omega)
  refine eh_istore (i := 6) (by decide +kernel) (by decide) ?_
  exact la_tail (p := 1937) (off := 655) hl (by decide +kernel) (by decide) M2 (B1.fs hx hb F) t0 (fun c => by rw [w2]; exact w1 c) (by show cs + 1 + 0 ≤ 601024; omega) (by show ss + 6 + 0 ≤ 7293034; omega) (K h2 S' _ _ (C1.fs F) M2 A' (B1.fs hx hb F) (by show cs + 1 + 0 ≤ cs + 6; omega) (by show ss + 6 + 0 ≤ ss + 847; omega))
theorem k_odds (hl : G.1.stackTraces = false) (hx : G.n0 ≤ x) (hb : b < G.n0) (hL : L ≤ 3072) (hi : i + 6 ≤ L) (C : CS G h x S) (M : MS G h (x + 192) S) (A : AbOk S) (B : LB G x tk b L xs h) (hc : cs + 6 ≤ 601024) (hs : ss + 847 ≤ 7293034) (K : Nx G hh x tk b L xs i cs ss P) : EvH G m_law hh 1968 (lc b x i) [] h cs ss P := by
  refine eh_aloadn (i := 1) (j := 1) rfl (by decide +kernel) rfl ?_
  refine la_arg (k := 1) (by decide +kernel) rfl rfl rfl (by omega) hL B ?_
  obtain ⟨q, S', kq, A', EC, EM⟩ := j_odds (tk := tk) hl hx (xs (i + 1)) h S C A B.1 B.2.1
  refine eh_aloadn (i := 3) (j := 3) rfl (by decide +kernel) rfl ?_
  show EvH G m_law hh 1976 (lc b x i) (([.ref x, .int (xs (i + 1)), .ref (x + 208)] : List Value).reverse ++ []) h cs ss P
  refine eh_callS (q := m_Lw_odds) (hq := hh_Lw_odds) (idx := 244) (h_Lw_odds (out := x + 208) EC C.kd (by omega) (fun v h' z => cc_v B z) (fun E h' z => by have w := cc_in kq z; simp only [cs_Lw_odds, List.mem_cons, List.not_mem_nil, or_false, Prod.mk.injEq] at w; exact w.1)) (fun E h' => hq_no E h') (wd_ok (k := 1502) (by decide +kernel)) (wd_ok (k := 1500) (by decide +kernel)) (wd_ok (k := 133) (by decide +kernel)) (wd_ok (k := 1501) (by decide +kernel)) (by show plainB _ 3 = true; decide +kernel) (by decide) (by decide) (by decide) (by decide +kernel) (by show cs + 1 ≤ 601024; omega) (by show ss + 6 ≤ 7293034; omega) (fun v h1 z => ?_)
  obtain ⟨e, C1, M1, B1, w1⟩ := mid hx hb kq M B z
  cases e
  refine eh_istore (i := 5) (by decide +kernel) (by decide) ?_
  refine eh_aloadn (i := 2) (j := 2) rfl (by decide +kernel) rfl ?_
  refine la_arg (k := 1) (by decide +kernel) rfl rfl rfl (by omega) hL B1 ?_
  show EvH G m_law hh 1988 ((lc b x i).set 5 (.int q.1)) (([.int (xs (i + 1))] : List Value).reverse ++ .ref (x + 192) :: []) h1 (cs + 1) (ss + 6) P
  refine eh_callN (q := m_Mo_odds) (idx := 246) (EM h1 M1 B1.2.1 B1.2.2.1) (fun E h' => mm_no E h') (wd_ok (k := 2236) (by decide +kernel)) (wd_ok (k := 2233) (by decide +kernel)) (wd_ok (k := 144) (by decide +kernel)) (wd_ok (k := 2234) (by decide +kernel)) (wd_ok (k := 2235) (by decide +kernel)) (by show plainB _ 1 = true; decide +kernel) (by decide) (by decide) (Or.inl ⟨10, 25, TX12, rfl, M1.kd⟩) (by decide) (by decide +kernel) (by show cs + 1 + 0 ≤ 601024; omega) (by show ss + 6 + 0 ≤ 7293034; omega) (fun v h2 z => ?_)
  obtain ⟨e, t0, F, M2⟩ := z
  cases e
  have w2 : h2.2.1 (x + 208) 0 = h1.2.1 (x + 208) 0 := F.2.2 _ _ (by unfold mZ; omega)
  refine eh_istore (i := 6) (by decide +kernel) (by decide) ?_
  exact la_tail (p := 1993) (off := 599) hl (by decide +kernel) (by decide) M2 (B1.fs hx hb F) t0 (fun c => by rw [w2]; exact w1 c) (by show cs + 1 + 0 ≤ 601024; omega) (by show ss + 6 + 0 ≤ 7293034; omega) (K h2 S' _ _ (C1.fs F) M2 A' (B1.fs hx hb F) (by show cs + 1 + 0 ≤ cs + 6; omega) (by show ss + 6 + 0 ≤ ss + 847; omega))
theorem k_most (hl : G.1.stackTraces = false) (hx : G.n0 ≤ x) (hb : b < G.n0) (hL : L ≤ 3072) (hi : i + 6 ≤ L) (C : CS G h x S) (M : MS G h (x + 192) S) (A : AbOk S) (B : LB G x tk b L xs h) (hc : cs + 6 ≤ 601024) (hs : ss + 847 ≤ 7293034) (K : Nx G hh x tk b L xs i cs ss P) : EvH G m_law hh 2024 (lc b x i) [] h cs ss P := by
  refine eh_aloadn (i := 1) (j := 1) rfl (by decide +kernel) rfl ?_
  refine la_arg (k := 1) (by decide +kernel) rfl rfl rfl (by omega) hL B ?_
  obtain ⟨q, S', kq, A', EC, EM⟩ := j_most (tk := tk) hl hx (xs (i + 1)) h S C A B.1 B.2.1
  refine eh_aloadn (i := 3) (j := 3) rfl (by decide +kernel) rfl ?_
  show EvH G m_law hh 2032 (lc b x i) (([.ref x, .int (xs (i + 1)), .ref (x + 208)] : List Value).reverse ++ []) h cs ss P
  refine eh_callS (q := m_Lw_most) (hq := hh_Lw_most) (idx := 247) (h_Lw_most (out := x + 208) EC C.kd (by omega) (fun v h' z => cc_v B z) (fun E h' z => by have w := cc_in kq z; simp only [cs_Lw_most, List.mem_cons, List.not_mem_nil, or_false, Prod.mk.injEq] at w; exact w.1)) (fun E h' => hq_no E h') (wd_ok (k := 1513) (by decide +kernel)) (wd_ok (k := 1511) (by decide +kernel)) (wd_ok (k := 133) (by decide +kernel)) (wd_ok (k := 1512) (by decide +kernel)) (by show plainB _ 3 = true; decide +kernel) (by decide) (by decide) (by decide) (by decide +kernel) (by show cs + 1 ≤ 601024; omega) (by show ss + 6 ≤ 7293034; omega) (fun v h1 z => ?_)
  obtain ⟨e, C1, M1, B1, w1⟩ := mid hx hb kq M B z
  cases e
  refine eh_istore (i := 5) (by decide +kernel) (by decide) ?_
  refine eh_aloadn (i := 2) (j := 2) rfl (by decide +kernel) rfl ?_
  refine la_arg (k := 1) (by decide +kernel) rfl rfl rfl (by omega) hL B1 ?_
  show EvH G m_law hh 2044 ((lc b x i).set 5 (.int q.1)) (([.int (xs (i + 1))] : List Value).reverse ++ .ref (x + 192) :: []) h1 (cs + 1) (ss + 6) P
  refine eh_callN (q := m_Mo_most) (idx := 249) (EM h1 M1 B1.2.1 B1.2.2.1) (fun E h' => mm_no E h') (wd_ok (k := 2240) (by decide +kernel)) (wd_ok (k := 2237) (by decide +kernel)) (wd_ok (k := 144) (by decide +kernel)) (wd_ok (k := 2238) (by decide +kernel)) (wd_ok (k := 2239) (by decide +kernel)) (by show plainB _ 1 = true; decide +kernel) (by decide) (by decide) (Or.inl ⟨10, 25, TX12, rfl, M1.kd⟩) (by decide) (by decide +kernel) (by show cs + 1 + 0 ≤ 601024; omega) (by show ss + 6 + 0 ≤ 7293034; omega) (fun v h2 z => ?_)
  obtain ⟨e, t0, F, M2⟩ := z
  cases e
  have w2 : h2.2.1 (x + 208) 0 = h1.2.1 (x + 208) 0 := F.2.2 _ _ (by unfold mZ; omega)
  refine eh_istore (i := 6) (by decide +kernel) (by decide) ?_
  exact la_tail (p := 2049) (off := 543) hl (by decide +kernel) (by decide) M2 (B1.fs hx hb F) t0 (fun c => by rw [w2]; exact w1 c) (by show cs + 1 + 0 ≤ 601024; omega) (by show ss + 6 + 0 ≤ 7293034; omega) (K h2 S' _ _ (C1.fs F) M2 A' (B1.fs hx hb F) (by show cs + 1 + 0 ≤ cs + 6; omega) (by show ss + 6 + 0 ≤ ss + 847; omega))
theorem k_living (hl : G.1.stackTraces = false) (hx : G.n0 ≤ x) (hb : b < G.n0) (hL : L ≤ 3072) (hi : i + 6 ≤ L) (C : CS G h x S) (M : MS G h (x + 192) S) (A : AbOk S) (B : LB G x tk b L xs h) (hc : cs + 6 ≤ 601024) (hs : ss + 847 ≤ 7293034) (K : Nx G hh x tk b L xs i cs ss P) : EvH G m_law hh 2080 (lc b x i) [] h cs ss P := by
  refine eh_aloadn (i := 1) (j := 1) rfl (by decide +kernel) rfl ?_
  obtain ⟨v0, S', iv, A', EC, EM⟩ := j_living (tk := tk) hl hx h S C A B.1 B.2.1
  obtain ⟨y, rfl⟩ : ∃ y, v0 = some (.int y) := iv
  show EvH G m_law hh 2081 (lc b x i) (([] : List Value).reverse ++ .ref x :: []) h cs ss P
  refine eh_callN (q := m_Gr_living) (idx := 250) EC (fun E h' z => nomatch z.1) (wd_ok (k := 545) (by decide +kernel)) (wd_ok (k := 542) (by decide +kernel)) (wd_ok (k := 134) (by decide +kernel)) (wd_ok (k := 543) (by decide +kernel)) (wd_ok (k := 544) (by decide +kernel)) (by show plainB _ 0 = true; decide +kernel) (by decide) (by decide) (Or.inl ⟨9, 13, TX11, rfl, C.kd⟩) (by decide) (by decide +kernel) (by show cs + 0 ≤ 601024; omega) (by show ss + 0 ≤ 7293034; omega) (fun v h1 z => ?_)
  obtain ⟨e, g, C1⟩ := z
  cases e
  have M1 := M.gw B.1 g
  have B1 := B.gw hx hb g
  refine eh_aloadn (i := 2) (j := 2) rfl (by decide +kernel) rfl ?_
  show EvH G m_law hh 2085 (lc b x i) (([] : List Value).reverse ++ .ref (x + 192) :: [.int y]) h1 (cs + 0) (ss + 0) P
  refine eh_callN (q := m_Mo_living) (idx := 253) (EM h1 M1 B1.2.1 B1.2.2.1) (fun E h' z => nomatch z.1) (wd_ok (k := 2248) (by decide +kernel)) (wd_ok (k := 2245) (by decide +kernel)) (wd_ok (k := 144) (by decide +kernel)) (wd_ok (k := 2246) (by decide +kernel)) (wd_ok (k := 2247) (by decide +kernel)) (by show plainB _ 0 = true; decide +kernel) (by decide) (by decide) (Or.inl ⟨10, 25, TX12, rfl, M1.kd⟩) (by show 1 ≤ 8; decide) (by decide +kernel) (by show cs + 0 + 0 ≤ 601024; omega) (by show ss + 0 + 0 ≤ 7293034; omega) (fun v h2 z => ?_)
  obtain ⟨e, F, M2⟩ := z
  cases e
  exact eh_icmp_eq (off := 532) (tgt := 2620) (by decide +kernel) rfl (fun _ => K h2 S' _ _ (C1.fs F) M2 A' (B1.fs hx hb F) (by show cs + 0 + 0 ≤ cs + 6; omega) (by show ss + 0 + 0 ≤ ss + 847; omega)) (fun n => absurd rfl n)
theorem k_idle (hl : G.1.stackTraces = false) (hx : G.n0 ≤ x) (hb : b < G.n0) (hL : L ≤ 3072) (hi : i + 6 ≤ L) (C : CS G h x S) (M : MS G h (x + 192) S) (A : AbOk S) (B : LB G x tk b L xs h) (hc : cs + 6 ≤ 601024) (hs : ss + 847 ≤ 7293034) (K : Nx G hh x tk b L xs i cs ss P) : EvH G m_law hh 2093 (lc b x i) [] h cs ss P := by
  refine eh_aloadn (i := 1) (j := 1) rfl (by decide +kernel) rfl ?_
  obtain ⟨v0, S', iv, A', EC, EM⟩ := j_idle (tk := tk) hl hx h S C A B.1 B.2.1
  obtain ⟨y, rfl⟩ : ∃ y, v0 = some (.int y) := iv
  show EvH G m_law hh 2094 (lc b x i) (([] : List Value).reverse ++ .ref x :: []) h cs ss P
  refine eh_callN (q := m_Gr_idle) (idx := 254) EC (fun E h' z => nomatch z.1) (wd_ok (k := 549) (by decide +kernel)) (wd_ok (k := 546) (by decide +kernel)) (wd_ok (k := 134) (by decide +kernel)) (wd_ok (k := 547) (by decide +kernel)) (wd_ok (k := 548) (by decide +kernel)) (by show plainB _ 0 = true; decide +kernel) (by decide) (by decide) (Or.inl ⟨9, 13, TX11, rfl, C.kd⟩) (by decide) (by decide +kernel) (by show cs + 0 ≤ 601024; omega) (by show ss + 0 ≤ 7293034; omega) (fun v h1 z => ?_)
  obtain ⟨e, g, C1⟩ := z
  cases e
  have M1 := M.gw B.1 g
  have B1 := B.gw hx hb g
  refine eh_aloadn (i := 2) (j := 2) rfl (by decide +kernel) rfl ?_
  show EvH G m_law hh 2098 (lc b x i) (([] : List Value).reverse ++ .ref (x + 192) :: [.int y]) h1 (cs + 0) (ss + 0) P
  refine eh_callN (q := m_Mo_idle) (idx := 257) (EM h1 M1 B1.2.1 B1.2.2.1) (fun E h' z => nomatch z.1) (wd_ok (k := 2252) (by decide +kernel)) (wd_ok (k := 2249) (by decide +kernel)) (wd_ok (k := 144) (by decide +kernel)) (wd_ok (k := 2250) (by decide +kernel)) (wd_ok (k := 2251) (by decide +kernel)) (by show plainB _ 0 = true; decide +kernel) (by decide) (by decide) (Or.inl ⟨10, 25, TX12, rfl, M1.kd⟩) (by show 1 ≤ 8; decide) (by decide +kernel) (by show cs + 0 + 0 ≤ 601024; omega) (by show ss + 0 + 0 ≤ 7293034; omega) (fun v h2 z => ?_)
  obtain ⟨e, F, M2⟩ := z
  cases e
  exact eh_icmp_eq (off := 519) (tgt := 2620) (by decide +kernel) rfl (fun _ => K h2 S' _ _ (C1.fs F) M2 A' (B1.fs hx hb F) (by show cs + 0 + 0 ≤ cs + 6; omega) (by show ss + 0 + 0 ≤ ss + 847; omega)) (fun n => absurd rfl n)
theorem k_crown (hl : G.1.stackTraces = false) (hx : G.n0 ≤ x) (hb : b < G.n0) (hL : L ≤ 3072) (hi : i + 6 ≤ L) (C : CS G h x S) (M : MS G h (x + 192) S) (A : AbOk S) (B : LB G x tk b L xs h) (hc : cs + 6 ≤ 601024) (hs : ss + 847 ≤ 7293034) (K : Nx G hh x tk b L xs i cs ss P) : EvH G m_law hh 2106 (lc b x i) [] h cs ss P := by
  refine eh_aloadn (i := 1) (j := 1) rfl (by decide +kernel) rfl ?_
  obtain ⟨v0, S', iv, A', EC, EM⟩ := j_crown (tk := tk) hl hx h S C A B.1 B.2.1
  obtain ⟨y, rfl⟩ : ∃ y, v0 = some (.int y) := iv
  show EvH G m_law hh 2107 (lc b x i) (([] : List Value).reverse ++ .ref x :: []) h cs ss P
  refine eh_callN (q := m_Gr_crown) (idx := 258) EC (fun E h' z => nomatch z.1) (wd_ok (k := 557) (by decide +kernel)) (wd_ok (k := 554) (by decide +kernel)) (wd_ok (k := 134) (by decide +kernel)) (wd_ok (k := 555) (by decide +kernel)) (wd_ok (k := 556) (by decide +kernel)) (by show plainB _ 0 = true; decide +kernel) (by decide) (by decide) (Or.inl ⟨9, 13, TX11, rfl, C.kd⟩) (by decide) (by decide +kernel) (by show cs + 0 ≤ 601024; omega) (by show ss + 0 ≤ 7293034; omega) (fun v h1 z => ?_)
  obtain ⟨e, g, C1⟩ := z
  cases e
  have M1 := M.gw B.1 g
  have B1 := B.gw hx hb g
  refine eh_aloadn (i := 2) (j := 2) rfl (by decide +kernel) rfl ?_
  show EvH G m_law hh 2111 (lc b x i) (([] : List Value).reverse ++ .ref (x + 192) :: [.int y]) h1 (cs + 0) (ss + 0) P
  refine eh_callN (q := m_Mo_crown) (idx := 261) (EM h1 M1 B1.2.1 B1.2.2.1) (fun E h' z => nomatch z.1) (wd_ok (k := 2256) (by decide +kernel)) (wd_ok (k := 2253) (by decide +kernel)) (wd_ok (k := 144) (by decide +kernel)) (wd_ok (k := 2254) (by decide +kernel)) (wd_ok (k := 2255) (by decide +kernel)) (by show plainB _ 0 = true; decide +kernel) (by decide) (by decide) (Or.inl ⟨10, 25, TX12, rfl, M1.kd⟩) (by show 1 ≤ 8; decide) (by decide +kernel) (by show cs + 0 + 0 ≤ 601024; omega) (by show ss + 0 + 0 ≤ 7293034; omega) (fun v h2 z => ?_)
  obtain ⟨e, F, M2⟩ := z
  cases e
  exact eh_icmp_eq (off := 506) (tgt := 2620) (by decide +kernel) rfl (fun _ => K h2 S' _ _ (C1.fs F) M2 A' (B1.fs hx hb F) (by show cs + 0 + 0 ≤ cs + 6; omega) (by show ss + 0 + 0 ≤ ss + 847; omega)) (fun n => absurd rfl n)
theorem k_wealth (hl : G.1.stackTraces = false) (hx : G.n0 ≤ x) (hb : b < G.n0) (hL : L ≤ 3072) (hi : i + 6 ≤ L) (C : CS G h x S) (M : MS G h (x + 192) S) (A : AbOk S) (B : LB G x tk b L xs h) (hc : cs + 6 ≤ 601024) (hs : ss + 847 ≤ 7293034) (K : Nx G hh x tk b L xs i cs ss P) : EvH G m_law hh 2119 (lc b x i) [] h cs ss P := by
  refine eh_aloadn (i := 1) (j := 1) rfl (by decide +kernel) rfl ?_
  obtain ⟨v0, S', iv, A', EC, EM⟩ := j_wealth (tk := tk) hl hx h S C A B.1 B.2.1
  obtain ⟨y, rfl⟩ : ∃ y, v0 = some (.int y) := iv
  show EvH G m_law hh 2120 (lc b x i) (([] : List Value).reverse ++ .ref x :: []) h cs ss P
  refine eh_callN (q := m_Gr_wealth) (idx := 262) EC (fun E h' z => nomatch z.1) (wd_ok (k := 565) (by decide +kernel)) (wd_ok (k := 562) (by decide +kernel)) (wd_ok (k := 134) (by decide +kernel)) (wd_ok (k := 563) (by decide +kernel)) (wd_ok (k := 564) (by decide +kernel)) (by show plainB _ 0 = true; decide +kernel) (by decide) (by decide) (Or.inl ⟨9, 13, TX11, rfl, C.kd⟩) (by decide) (by decide +kernel) (by show cs + 0 ≤ 601024; omega) (by show ss + 0 ≤ 7293034; omega) (fun v h1 z => ?_)
  obtain ⟨e, g, C1⟩ := z
  cases e
  have M1 := M.gw B.1 g
  have B1 := B.gw hx hb g
  refine eh_aloadn (i := 2) (j := 2) rfl (by decide +kernel) rfl ?_
  show EvH G m_law hh 2124 (lc b x i) (([] : List Value).reverse ++ .ref (x + 192) :: [.int y]) h1 (cs + 0) (ss + 0) P
  refine eh_callN (q := m_Mo_wealth) (idx := 265) (EM h1 M1 B1.2.1 B1.2.2.1) (fun E h' z => nomatch z.1) (wd_ok (k := 2260) (by decide +kernel)) (wd_ok (k := 2257) (by decide +kernel)) (wd_ok (k := 144) (by decide +kernel)) (wd_ok (k := 2258) (by decide +kernel)) (wd_ok (k := 2259) (by decide +kernel)) (by show plainB _ 0 = true; decide +kernel) (by decide) (by decide) (Or.inl ⟨10, 25, TX12, rfl, M1.kd⟩) (by show 1 ≤ 8; decide) (by decide +kernel) (by show cs + 0 + 0 ≤ 601024; omega) (by show ss + 0 + 0 ≤ 7293034; omega) (fun v h2 z => ?_)
  obtain ⟨e, F, M2⟩ := z
  cases e
  exact eh_icmp_eq (off := 493) (tgt := 2620) (by decide +kernel) rfl (fun _ => K h2 S' _ _ (C1.fs F) M2 A' (B1.fs hx hb F) (by show cs + 0 + 0 ≤ cs + 6; omega) (by show ss + 0 + 0 ≤ ss + 847; omega)) (fun n => absurd rfl n)
theorem k_twins (hl : G.1.stackTraces = false) (hx : G.n0 ≤ x) (hb : b < G.n0) (hL : L ≤ 3072) (hi : i + 6 ≤ L) (C : CS G h x S) (M : MS G h (x + 192) S) (A : AbOk S) (B : LB G x tk b L xs h) (hc : cs + 6 ≤ 601024) (hs : ss + 847 ≤ 7293034) (K : Nx G hh x tk b L xs i cs ss P) : EvH G m_law hh 2132 (lc b x i) [] h cs ss P := by
  refine eh_aloadn (i := 1) (j := 1) rfl (by decide +kernel) rfl ?_
  obtain ⟨v0, S', iv, A', EC, EM⟩ := j_twins (tk := tk) hl hx h S C A B.1 B.2.1
  obtain ⟨y, rfl⟩ : ∃ y, v0 = some (.int y) := iv
  show EvH G m_law hh 2133 (lc b x i) (([] : List Value).reverse ++ .ref x :: []) h cs ss P
  refine eh_callN (q := m_Gr_twins) (idx := 266) EC (fun E h' z => nomatch z.1) (wd_ok (k := 578) (by decide +kernel)) (wd_ok (k := 575) (by decide +kernel)) (wd_ok (k := 134) (by decide +kernel)) (wd_ok (k := 576) (by decide +kernel)) (wd_ok (k := 577) (by decide +kernel)) (by show plainB _ 0 = true; decide +kernel) (by decide) (by decide) (Or.inl ⟨9, 13, TX11, rfl, C.kd⟩) (by decide) (by decide +kernel) (by show cs + 0 ≤ 601024; omega) (by show ss + 0 ≤ 7293034; omega) (fun v h1 z => ?_)
  obtain ⟨e, g, C1⟩ := z
  cases e
  have M1 := M.gw B.1 g
  have B1 := B.gw hx hb g
  refine eh_aloadn (i := 2) (j := 2) rfl (by decide +kernel) rfl ?_
  show EvH G m_law hh 2137 (lc b x i) (([] : List Value).reverse ++ .ref (x + 192) :: [.int y]) h1 (cs + 0) (ss + 0) P
  refine eh_callN (q := m_Mo_twins) (idx := 269) (EM h1 M1 B1.2.1 B1.2.2.1) (fun E h' z => nomatch z.1) (wd_ok (k := 2264) (by decide +kernel)) (wd_ok (k := 2261) (by decide +kernel)) (wd_ok (k := 144) (by decide +kernel)) (wd_ok (k := 2262) (by decide +kernel)) (wd_ok (k := 2263) (by decide +kernel)) (by show plainB _ 0 = true; decide +kernel) (by decide) (by decide) (Or.inl ⟨10, 25, TX12, rfl, M1.kd⟩) (by show 1 ≤ 8; decide) (by decide +kernel) (by show cs + 0 + 0 ≤ 601024; omega) (by show ss + 0 + 0 ≤ 7293034; omega) (fun v h2 z => ?_)
  obtain ⟨e, F, M2⟩ := z
  cases e
  exact eh_icmp_eq (off := 480) (tgt := 2620) (by decide +kernel) rfl (fun _ => K h2 S' _ _ (C1.fs F) M2 A' (B1.fs hx hb F) (by show cs + 0 + 0 ≤ cs + 6; omega) (by show ss + 0 + 0 ≤ ss + 847; omega)) (fun n => absurd rfl n)
theorem k_ahead (hl : G.1.stackTraces = false) (hx : G.n0 ≤ x) (hb : b < G.n0) (hL : L ≤ 3072) (hi : i + 6 ≤ L) (C : CS G h x S) (M : MS G h (x + 192) S) (A : AbOk S) (B : LB G x tk b L xs h) (hc : cs + 6 ≤ 601024) (hs : ss + 847 ≤ 7293034) (K : Nx G hh x tk b L xs i cs ss P) : EvH G m_law hh 2145 (lc b x i) [] h cs ss P := by
  refine eh_aloadn (i := 1) (j := 1) rfl (by decide +kernel) rfl ?_
  refine la_arg (k := 1) (by decide +kernel) rfl rfl rfl (by omega) hL B ?_
  refine la_arg (k := 2) (by decide +kernel) rfl rfl rfl (by omega) hL B ?_
  obtain ⟨q, S', kq, A', EC, EM⟩ := j_ahead (tk := tk) hl hx (xs (i + 1)) (xs (i + 2)) h S C A B.1 B.2.1
  refine eh_aloadn (i := 3) (j := 3) rfl (by decide +kernel) rfl ?_
  show EvH G m_law hh 2159 (lc b x i) (([.ref x, .int (xs (i + 1)), .int (xs (i + 2)), .ref (x + 208)] : List Value).reverse ++ []) h cs ss P
  refine eh_callS (q := m_Lw_ahead) (hq := hh_Lw_ahead) (idx := 270) (h_Lw_ahead (out := x + 208) EC C.kd (by omega) (fun v h' z => cc_v B z) (fun E h' z => by have w := cc_in kq z; simp only [cs_Lw_ahead, List.mem_cons, List.not_mem_nil, or_false, Prod.mk.injEq] at w; exact w.imp (·.1) (·.1))) (fun E h' => hq_no E h') (wd_ok (k := 1526) (by decide +kernel)) (wd_ok (k := 1524) (by decide +kernel)) (wd_ok (k := 133) (by decide +kernel)) (wd_ok (k := 1525) (by decide +kernel)) (by show plainB _ 4 = true; decide +kernel) (by decide) (by decide) (by decide) (by decide +kernel) (by show cs + 2 ≤ 601024; omega) (by show ss + 12 ≤ 7293034; omega) (fun v h1 z => ?_)
  obtain ⟨e, C1, M1, B1, w1⟩ := mid hx hb kq M B z
  cases e
  refine eh_istore (i := 5) (by decide +kernel) (by decide) ?_
  refine eh_aloadn (i := 2) (j := 2) rfl (by decide +kernel) rfl ?_
  refine la_arg (k := 1) (by decide +kernel) rfl rfl rfl (by omega) hL B1 ?_
  refine la_arg (k := 2) (by decide +kernel) rfl rfl rfl (by omega) hL B1 ?_
  show EvH G m_law hh 2177 ((lc b x i).set 5 (.int q.1)) (([.int (xs (i + 1)), .int (xs (i + 2))] : List Value).reverse ++ .ref (x + 192) :: []) h1 (cs + 2) (ss + 12) P
  refine eh_callN (q := m_Mo_ahead) (idx := 272) (EM h1 M1 B1.2.1 B1.2.2.1) (fun E h' => mm_no E h') (wd_ok (k := 2268) (by decide +kernel)) (wd_ok (k := 2265) (by decide +kernel)) (wd_ok (k := 144) (by decide +kernel)) (wd_ok (k := 2266) (by decide +kernel)) (wd_ok (k := 2267) (by decide +kernel)) (by show plainB _ 2 = true; decide +kernel) (by decide) (by decide) (Or.inl ⟨10, 25, TX12, rfl, M1.kd⟩) (by decide) (by decide +kernel) (by show cs + 2 + 0 ≤ 601024; omega) (by show ss + 12 + 0 ≤ 7293034; omega) (fun v h2 z => ?_)
  obtain ⟨e, t0, F, M2⟩ := z
  cases e
  have w2 : h2.2.1 (x + 208) 0 = h1.2.1 (x + 208) 0 := F.2.2 _ _ (by unfold mZ; omega)
  refine eh_istore (i := 6) (by decide +kernel) (by decide) ?_
  exact la_tail (p := 2182) (off := 410) hl (by decide +kernel) (by decide) M2 (B1.fs hx hb F) t0 (fun c => by rw [w2]; exact w1 c) (by show cs + 2 + 0 ≤ 601024; omega) (by show ss + 12 + 0 ≤ 7293034; omega) (K h2 S' _ _ (C1.fs F) M2 A' (B1.fs hx hb F) (by show cs + 2 + 0 ≤ cs + 6; omega) (by show ss + 12 + 0 ≤ ss + 847; omega))
theorem k_trial (hl : G.1.stackTraces = false) (hx : G.n0 ≤ x) (hb : b < G.n0) (hL : L ≤ 3072) (hi : i + 6 ≤ L) (C : CS G h x S) (M : MS G h (x + 192) S) (A : AbOk S) (B : LB G x tk b L xs h) (hc : cs + 6 ≤ 601024) (hs : ss + 847 ≤ 7293034) (K : Nx G hh x tk b L xs i cs ss P) : EvH G m_law hh 2213 (lc b x i) [] h cs ss P := by
  refine eh_aloadn (i := 1) (j := 1) rfl (by decide +kernel) rfl ?_
  refine la_arg (k := 1) (by decide +kernel) rfl rfl rfl (by omega) hL B ?_
  refine la_arg (k := 2) (by decide +kernel) rfl rfl rfl (by omega) hL B ?_
  refine la_bz (by decide +kernel) ?_
  obtain ⟨q, S', kq, A', EC, EM⟩ := j_trial (tk := tk) hl hx (xs (i + 1)) (bz (xs (i + 2))) h S C A B.1 B.2.1
  refine eh_aloadn (i := 3) (j := 3) rfl (by decide +kernel) rfl ?_
  show EvH G m_law hh 2235 (lc b x i) (([.ref x, .int (xs (i + 1)), .int (bz (xs (i + 2))), .ref (x + 208)] : List Value).reverse ++ []) h cs ss P
  refine eh_callS (q := m_Lw_trial) (hq := hh_Lw_trial) (idx := 273) (h_Lw_trial (out := x + 208) EC C.kd (by omega) (fun v h' z => cc_v B z) (fun E h' z => by have w := cc_in kq z; simp only [cs_Lw_trial, List.mem_cons, List.not_mem_nil, or_false, Prod.mk.injEq] at w; exact w.1)) (fun E h' => hq_no E h') (wd_ok (k := 1537) (by decide +kernel)) (wd_ok (k := 1535) (by decide +kernel)) (wd_ok (k := 133) (by decide +kernel)) (wd_ok (k := 1536) (by decide +kernel)) (by show plainB _ 4 = true; decide +kernel) (by decide) (by decide) (by decide) (by decide +kernel) (by show cs + 1 ≤ 601024; omega) (by show ss + 6 ≤ 7293034; omega) (fun v h1 z => ?_)
  obtain ⟨e, C1, M1, B1, w1⟩ := mid hx hb kq M B z
  cases e
  refine eh_istore (i := 5) (by decide +kernel) (by decide) ?_
  refine eh_aloadn (i := 2) (j := 2) rfl (by decide +kernel) rfl ?_
  refine la_arg (k := 1) (by decide +kernel) rfl rfl rfl (by omega) hL B1 ?_
  refine la_arg (k := 2) (by decide +kernel) rfl rfl rfl (by omega) hL B1 ?_
  refine la_bz (by decide +kernel) ?_
  show EvH G m_law hh 2261 ((lc b x i).set 5 (.int q.1)) (([.int (xs (i + 1)), .int (bz (xs (i + 2)))] : List Value).reverse ++ .ref (x + 192) :: []) h1 (cs + 1) (ss + 6) P
  refine eh_callN (q := m_Mo_trial) (idx := 275) (EM h1 M1 B1.2.1 B1.2.2.1) (fun E h' => mm_no E h') (wd_ok (k := 2283) (by decide +kernel)) (wd_ok (k := 2280) (by decide +kernel)) (wd_ok (k := 144) (by decide +kernel)) (wd_ok (k := 2281) (by decide +kernel)) (wd_ok (k := 2282) (by decide +kernel)) (by show plainB _ 2 = true; decide +kernel) (by decide) (by decide) (Or.inl ⟨10, 25, TX12, rfl, M1.kd⟩) (by decide) (by decide +kernel) (by show cs + 1 + 0 ≤ 601024; omega) (by show ss + 6 + 0 ≤ 7293034; omega) (fun v h2 z => ?_)
  obtain ⟨e, t0, F, M2⟩ := z
  cases e
  have w2 : h2.2.1 (x + 208) 0 = h1.2.1 (x + 208) 0 := F.2.2 _ _ (by unfold mZ; omega)
  refine eh_istore (i := 6) (by decide +kernel) (by decide) ?_
  exact la_tail (p := 2266) (off := 326) hl (by decide +kernel) (by decide) M2 (B1.fs hx hb F) t0 (fun c => by rw [w2]; exact w1 c) (by show cs + 1 + 0 ≤ 601024; omega) (by show ss + 6 + 0 ≤ 7293034; omega) (K h2 S' _ _ (C1.fs F) M2 A' (B1.fs hx hb F) (by show cs + 1 + 0 ≤ cs + 6; omega) (by show ss + 6 + 0 ≤ ss + 847; omega))
theorem k_span (hl : G.1.stackTraces = false) (hx : G.n0 ≤ x) (hb : b < G.n0) (hL : L ≤ 3072) (hi : i + 6 ≤ L) (C : CS G h x S) (M : MS G h (x + 192) S) (A : AbOk S) (B : LB G x tk b L xs h) (hc : cs + 6 ≤ 601024) (hs : ss + 847 ≤ 7293034) (K : Nx G hh x tk b L xs i cs ss P) : EvH G m_law hh 2297 (lc b x i) [] h cs ss P := by
  refine eh_aloadn (i := 1) (j := 1) rfl (by decide +kernel) rfl ?_
  refine la_arg (k := 1) (by decide +kernel) rfl rfl rfl (by omega) hL B ?_
  refine la_arg (k := 2) (by decide +kernel) rfl rfl rfl (by omega) hL B ?_
  refine la_bz (by decide +kernel) ?_
  obtain ⟨q, S', kq, A', EC, EM⟩ := j_span (tk := tk) hl hx (xs (i + 1)) (bz (xs (i + 2))) h S C A B.1 B.2.1
  refine eh_aloadn (i := 3) (j := 3) rfl (by decide +kernel) rfl ?_
  show EvH G m_law hh 2319 (lc b x i) (([.ref x, .int (xs (i + 1)), .int (bz (xs (i + 2))), .ref (x + 208)] : List Value).reverse ++ []) h cs ss P
  refine eh_callS (q := m_Lw_span) (hq := hh_Lw_span) (idx := 276) (h_Lw_span (out := x + 208) EC C.kd (by omega) (fun v h' z => cc_v B z) (fun E h' z => by have w := cc_in kq z; simp only [cs_Lw_span, List.mem_cons, List.not_mem_nil, or_false, Prod.mk.injEq] at w; exact w.1)) (fun E h' => hq_no E h') (wd_ok (k := 1544) (by decide +kernel)) (wd_ok (k := 1542) (by decide +kernel)) (wd_ok (k := 133) (by decide +kernel)) (wd_ok (k := 1543) (by decide +kernel)) (by show plainB _ 4 = true; decide +kernel) (by decide) (by decide) (by decide) (by decide +kernel) (by show cs + 1 ≤ 601024; omega) (by show ss + 6 ≤ 7293034; omega) (fun v h1 z => ?_)
  obtain ⟨e, C1, M1, B1, w1⟩ := mid hx hb kq M B z
  cases e
  refine eh_istore (i := 5) (by decide +kernel) (by decide) ?_
  refine eh_aloadn (i := 2) (j := 2) rfl (by decide +kernel) rfl ?_
  refine la_arg (k := 1) (by decide +kernel) rfl rfl rfl (by omega) hL B1 ?_
  refine la_arg (k := 2) (by decide +kernel) rfl rfl rfl (by omega) hL B1 ?_
  refine la_bz (by decide +kernel) ?_
  show EvH G m_law hh 2345 ((lc b x i).set 5 (.int q.1)) (([.int (xs (i + 1)), .int (bz (xs (i + 2)))] : List Value).reverse ++ .ref (x + 192) :: []) h1 (cs + 1) (ss + 6) P
  refine eh_callN (q := m_Mo_span) (idx := 278) (EM h1 M1 B1.2.1 B1.2.2.1) (fun E h' => mm_no E h') (wd_ok (k := 2287) (by decide +kernel)) (wd_ok (k := 2284) (by decide +kernel)) (wd_ok (k := 144) (by decide +kernel)) (wd_ok (k := 2285) (by decide +kernel)) (wd_ok (k := 2286) (by decide +kernel)) (by show plainB _ 2 = true; decide +kernel) (by decide) (by decide) (Or.inl ⟨10, 25, TX12, rfl, M1.kd⟩) (by decide) (by decide +kernel) (by show cs + 1 + 0 ≤ 601024; omega) (by show ss + 6 + 0 ≤ 7293034; omega) (fun v h2 z => ?_)
  obtain ⟨e, t0, F, M2⟩ := z
  cases e
  have w2 : h2.2.1 (x + 208) 0 = h1.2.1 (x + 208) 0 := F.2.2 _ _ (by unfold mZ; omega)
  refine eh_istore (i := 6) (by decide +kernel) (by decide) ?_
  exact la_tail (p := 2350) (off := 242) hl (by decide +kernel) (by decide) M2 (B1.fs hx hb F) t0 (fun c => by rw [w2]; exact w1 c) (by show cs + 1 + 0 ≤ 601024; omega) (by show ss + 6 + 0 ≤ 7293034; omega) (K h2 S' _ _ (C1.fs F) M2 A' (B1.fs hx hb F) (by show cs + 1 + 0 ≤ cs + 6; omega) (by show ss + 6 + 0 ≤ ss + 847; omega))
theorem k_led (hl : G.1.stackTraces = false) (hx : G.n0 ≤ x) (hb : b < G.n0) (hL : L ≤ 3072) (hi : i + 6 ≤ L) (C : CS G h x S) (M : MS G h (x + 192) S) (A : AbOk S) (B : LB G x tk b L xs h) (hc : cs + 6 ≤ 601024) (hs : ss + 847 ≤ 7293034) (K : Nx G hh x tk b L xs i cs ss P) : EvH G m_law hh 2381 (lc b x i) [] h cs ss P := by
  refine eh_aloadn (i := 1) (j := 1) rfl (by decide +kernel) rfl ?_
  refine la_arg (k := 1) (by decide +kernel) rfl rfl rfl (by omega) hL B ?_
  refine la_arg (k := 2) (by decide +kernel) rfl rfl rfl (by omega) hL B ?_
  refine la_bz (by decide +kernel) ?_
  obtain ⟨q, S', kq, A', EC, EM⟩ := j_led (tk := tk) hl hx (xs (i + 1)) (bz (xs (i + 2))) h S C A B.1 B.2.1
  refine eh_aloadn (i := 3) (j := 3) rfl (by decide +kernel) rfl ?_
  show EvH G m_law hh 2403 (lc b x i) (([.ref x, .int (xs (i + 1)), .int (bz (xs (i + 2))), .ref (x + 208)] : List Value).reverse ++ []) h cs ss P
  refine eh_callS (q := m_Lw_led) (hq := hh_Lw_led) (idx := 279) (h_Lw_led (out := x + 208) EC C.kd (by omega) (fun v h' z => cc_v B z) (fun E h' z => by have w := cc_in kq z; simp only [cs_Lw_led, List.mem_cons, List.not_mem_nil, or_false, Prod.mk.injEq] at w; exact w.1)) (fun E h' => hq_no E h') (wd_ok (k := 1551) (by decide +kernel)) (wd_ok (k := 1549) (by decide +kernel)) (wd_ok (k := 133) (by decide +kernel)) (wd_ok (k := 1550) (by decide +kernel)) (by show plainB _ 4 = true; decide +kernel) (by decide) (by decide) (by decide) (by decide +kernel) (by show cs + 1 ≤ 601024; omega) (by show ss + 6 ≤ 7293034; omega) (fun v h1 z => ?_)
  obtain ⟨e, C1, M1, B1, w1⟩ := mid hx hb kq M B z
  cases e
  refine eh_istore (i := 5) (by decide +kernel) (by decide) ?_
  refine eh_aloadn (i := 2) (j := 2) rfl (by decide +kernel) rfl ?_
  refine la_arg (k := 1) (by decide +kernel) rfl rfl rfl (by omega) hL B1 ?_
  refine la_arg (k := 2) (by decide +kernel) rfl rfl rfl (by omega) hL B1 ?_
  refine la_bz (by decide +kernel) ?_
  show EvH G m_law hh 2429 ((lc b x i).set 5 (.int q.1)) (([.int (xs (i + 1)), .int (bz (xs (i + 2)))] : List Value).reverse ++ .ref (x + 192) :: []) h1 (cs + 1) (ss + 6) P
  refine eh_callN (q := m_Mo_led) (idx := 281) (EM h1 M1 B1.2.1 B1.2.2.1) (fun E h' => mm_no E h') (wd_ok (k := 2291) (by decide +kernel)) (wd_ok (k := 2288) (by decide +kernel)) (wd_ok (k := 144) (by decide +kernel)) (wd_ok (k := 2289) (by decide +kernel)) (wd_ok (k := 2290) (by decide +kernel)) (by show plainB _ 2 = true; decide +kernel) (by decide) (by decide) (Or.inl ⟨10, 25, TX12, rfl, M1.kd⟩) (by decide) (by decide +kernel) (by show cs + 1 + 0 ≤ 601024; omega) (by show ss + 6 + 0 ≤ 7293034; omega) (fun v h2 z => ?_)
  obtain ⟨e, t0, F, M2⟩ := z
  cases e
  have w2 : h2.2.1 (x + 208) 0 = h1.2.1 (x + 208) 0 := F.2.2 _ _ (by unfold mZ; omega)
  refine eh_istore (i := 6) (by decide +kernel) (by decide) ?_
  exact la_tail (p := 2434) (off := 158) hl (by decide +kernel) (by decide) M2 (B1.fs hx hb F) t0 (fun c => by rw [w2]; exact w1 c) (by show cs + 1 + 0 ≤ 601024; omega) (by show ss + 6 + 0 ≤ 7293034; omega) (K h2 S' _ _ (C1.fs F) M2 A' (B1.fs hx hb F) (by show cs + 1 + 0 ≤ cs + 6; omega) (by show ss + 6 + 0 ≤ ss + 847; omega))
theorem k_log (hl : G.1.stackTraces = false) (hx : G.n0 ≤ x) (hb : b < G.n0) (hL : L ≤ 3072) (hi : i + 6 ≤ L) (C : CS G h x S) (M : MS G h (x + 192) S) (A : AbOk S) (B : LB G x tk b L xs h) (hc : cs + 6 ≤ 601024) (hs : ss + 847 ≤ 7293034) (K : Nx G hh x tk b L xs i cs ss P) : EvH G m_law hh 2465 (lc b x i) [] h cs ss P := by
  refine eh_aloadn (i := 1) (j := 1) rfl (by decide +kernel) rfl ?_
  refine la_arg (k := 1) (by decide +kernel) rfl rfl rfl (by omega) hL B ?_
  refine la_arg (k := 2) (by decide +kernel) rfl rfl rfl (by omega) hL B ?_
  obtain ⟨q, S', kq, A', EC, EM⟩ := j_log (tk := tk) hl hx (xs (i + 1)) (xs (i + 2)) h S C A B.1 B.2.1
  refine eh_aloadn (i := 3) (j := 3) rfl (by decide +kernel) rfl ?_
  show EvH G m_law hh 2479 (lc b x i) (([.ref x, .int (xs (i + 1)), .int (xs (i + 2)), .ref (x + 208)] : List Value).reverse ++ []) h cs ss P
  refine eh_callS (q := m_Lw_log) (hq := hh_Lw_log) (idx := 282) (h_Lw_log (out := x + 208) EC C.kd (by omega) (fun v h' z => cc_v B z) (fun E h' z => by have w := cc_in kq z; simp only [cs_Lw_log, List.mem_cons, List.not_mem_nil, or_false, Prod.mk.injEq] at w; exact w.1)) (fun E h' => hq_no E h') (wd_ok (k := 1570) (by decide +kernel)) (wd_ok (k := 1568) (by decide +kernel)) (wd_ok (k := 133) (by decide +kernel)) (wd_ok (k := 1569) (by decide +kernel)) (by show plainB _ 4 = true; decide +kernel) (by decide) (by decide) (by decide) (by decide +kernel) (by show cs + 1 ≤ 601024; omega) (by show ss + 6 ≤ 7293034; omega) (fun v h1 z => ?_)
  obtain ⟨e, C1, M1, B1, w1⟩ := mid hx hb kq M B z
  cases e
  refine eh_istore (i := 5) (by decide +kernel) (by decide) ?_
  refine eh_aloadn (i := 2) (j := 2) rfl (by decide +kernel) rfl ?_
  refine la_arg (k := 1) (by decide +kernel) rfl rfl rfl (by omega) hL B1 ?_
  refine la_arg (k := 2) (by decide +kernel) rfl rfl rfl (by omega) hL B1 ?_
  show EvH G m_law hh 2497 ((lc b x i).set 5 (.int q.1)) (([.int (xs (i + 1)), .int (xs (i + 2))] : List Value).reverse ++ .ref (x + 192) :: []) h1 (cs + 1) (ss + 6) P
  refine eh_callN (q := m_Mo_log) (idx := 284) (EM h1 M1 B1.2.1 B1.2.2.1) (fun E h' => mm_no E h') (wd_ok (k := 2299) (by decide +kernel)) (wd_ok (k := 2296) (by decide +kernel)) (wd_ok (k := 144) (by decide +kernel)) (wd_ok (k := 2297) (by decide +kernel)) (wd_ok (k := 2298) (by decide +kernel)) (by show plainB _ 2 = true; decide +kernel) (by decide) (by decide) (Or.inl ⟨10, 25, TX12, rfl, M1.kd⟩) (by decide) (by decide +kernel) (by show cs + 1 + 0 ≤ 601024; omega) (by show ss + 6 + 0 ≤ 7293034; omega) (fun v h2 z => ?_)
  obtain ⟨e, t0, F, M2⟩ := z
  cases e
  have w2 : h2.2.1 (x + 208) 0 = h1.2.1 (x + 208) 0 := F.2.2 _ _ (by unfold mZ; omega)
  refine eh_istore (i := 6) (by decide +kernel) (by decide) ?_
  exact la_tail (p := 2502) (off := 90) hl (by decide +kernel) (by decide) M2 (B1.fs hx hb F) t0 (fun c => by rw [w2]; exact w1 c) (by show cs + 1 + 0 ≤ 601024; omega) (by show ss + 6 + 0 ≤ 7293034; omega) (K h2 S' _ _ (C1.fs F) M2 A' (B1.fs hx hb F) (by show cs + 1 + 0 ≤ cs + 6; omega) (by show ss + 6 + 0 ≤ ss + 847; omega))
theorem k_seed (hl : G.1.stackTraces = false) (hx : G.n0 ≤ x) (hb : b < G.n0) (hL : L ≤ 3072) (hi : i + 6 ≤ L) (C : CS G h x S) (M : MS G h (x + 192) S) (A : AbOk S) (B : LB G x tk b L xs h) (hc : cs + 6 ≤ 601024) (hs : ss + 847 ≤ 7293034) (K : Nx G hh x tk b L xs i cs ss P) : EvH G m_law hh 2533 (lc b x i) [] h cs ss P := by
  refine eh_aloadn (i := 1) (j := 1) rfl (by decide +kernel) rfl ?_
  refine la_arg (k := 1) (by decide +kernel) rfl rfl rfl (by omega) hL B ?_
  obtain ⟨v0, S', iv, A', EC, EM⟩ := j_seed (tk := tk) hl hx (xs (i + 1)) h S C A B.1 B.2.1
  obtain ⟨y, rfl⟩ : ∃ y, v0 = some (.int y) := iv
  show EvH G m_law hh 2540 (lc b x i) (([.int (xs (i + 1))] : List Value).reverse ++ .ref x :: []) h cs ss P
  refine eh_callN (q := m_Gr_seed) (idx := 285) EC (fun E h' z => nomatch z.1) (wd_ok (k := 582) (by decide +kernel)) (wd_ok (k := 579) (by decide +kernel)) (wd_ok (k := 134) (by decide +kernel)) (wd_ok (k := 580) (by decide +kernel)) (wd_ok (k := 581) (by decide +kernel)) (by show plainB _ 1 = true; decide +kernel) (by decide) (by decide) (Or.inl ⟨9, 13, TX11, rfl, C.kd⟩) (by decide) (by decide +kernel) (by show cs + 0 ≤ 601024; omega) (by show ss + 0 ≤ 7293034; omega) (fun v h1 z => ?_)
  obtain ⟨e, g, C1⟩ := z
  cases e
  have M1 := M.gw B.1 g
  have B1 := B.gw hx hb g
  refine eh_aloadn (i := 2) (j := 2) rfl (by decide +kernel) rfl ?_
  refine la_arg (k := 1) (by decide +kernel) rfl rfl rfl (by omega) hL B1 ?_
  show EvH G m_law hh 2550 (lc b x i) (([.int (xs (i + 1))] : List Value).reverse ++ .ref (x + 192) :: [.int y]) h1 (cs + 0) (ss + 0) P
  refine eh_callN (q := m_Mo_seed) (idx := 288) (EM h1 M1 B1.2.1 B1.2.2.1) (fun E h' z => nomatch z.1) (wd_ok (k := 2303) (by decide +kernel)) (wd_ok (k := 2300) (by decide +kernel)) (wd_ok (k := 144) (by decide +kernel)) (wd_ok (k := 2301) (by decide +kernel)) (wd_ok (k := 2302) (by decide +kernel)) (by show plainB _ 1 = true; decide +kernel) (by decide) (by decide) (Or.inl ⟨10, 25, TX12, rfl, M1.kd⟩) (by show 1 ≤ 8; decide) (by decide +kernel) (by show cs + 0 + 0 ≤ 601024; omega) (by show ss + 0 + 0 ≤ 7293034; omega) (fun v h2 z => ?_)
  obtain ⟨e, F, M2⟩ := z
  cases e
  exact eh_icmp_eq (off := 67) (tgt := 2620) (by decide +kernel) rfl (fun _ => K h2 S' _ _ (C1.fs F) M2 A' (B1.fs hx hb F) (by show cs + 0 + 0 ≤ cs + 6; omega) (by show ss + 0 + 0 ≤ ss + 847; omega)) (fun n => absurd rfl n)
theorem k_undo (hl : G.1.stackTraces = false) (hx : G.n0 ≤ x) (hb : b < G.n0) (hL : L ≤ 3072) (hi : i + 6 ≤ L) (C : CS G h x S) (M : MS G h (x + 192) S) (A : AbOk S) (B : LB G x tk b L xs h) (hc : cs + 6 ≤ 601024) (hs : ss + 847 ≤ 7293034) (K : Nx G hh x tk b L xs i cs ss P) : EvH G m_law hh 2558 (lc b x i) [] h cs ss P := by
  refine eh_aloadn (i := 1) (j := 1) rfl (by decide +kernel) rfl ?_
  obtain ⟨v0, S', iv, A', EC, EM⟩ := j_undo (tk := tk) hl hx h S C A B.1 B.2.1
  obtain ⟨y, rfl⟩ : ∃ y, v0 = some (.int y) := iv
  show EvH G m_law hh 2559 (lc b x i) (([] : List Value).reverse ++ .ref x :: []) h cs ss P
  refine eh_callN (q := m_Gr_undo) (idx := 289) EC (fun E h' z => nomatch z.1) (wd_ok (k := 586) (by decide +kernel)) (wd_ok (k := 583) (by decide +kernel)) (wd_ok (k := 134) (by decide +kernel)) (wd_ok (k := 584) (by decide +kernel)) (wd_ok (k := 585) (by decide +kernel)) (by show plainB _ 0 = true; decide +kernel) (by decide) (by decide) (Or.inl ⟨9, 13, TX11, rfl, C.kd⟩) (by decide) (by decide +kernel) (by show cs + 0 ≤ 601024; omega) (by show ss + 0 ≤ 7293034; omega) (fun v h1 z => ?_)
  obtain ⟨e, g, C1⟩ := z
  cases e
  have M1 := M.gw B.1 g
  have B1 := B.gw hx hb g
  refine eh_aloadn (i := 2) (j := 2) rfl (by decide +kernel) rfl ?_
  show EvH G m_law hh 2563 (lc b x i) (([] : List Value).reverse ++ .ref (x + 192) :: [.int y]) h1 (cs + 0) (ss + 0) P
  refine eh_callN (q := m_Mo_undo) (idx := 293) (EM h1 M1 B1.2.1 B1.2.2.1) (fun E h' z => nomatch z.1) (wd_ok (k := 1674) (by decide +kernel)) (wd_ok (k := 1671) (by decide +kernel)) (wd_ok (k := 144) (by decide +kernel)) (wd_ok (k := 1672) (by decide +kernel)) (wd_ok (k := 1673) (by decide +kernel)) (by show plainB _ 0 = true; decide +kernel) (by decide) (by decide) (Or.inl ⟨10, 25, TX12, rfl, M1.kd⟩) (by show 1 ≤ 8; decide) (by decide +kernel) (by show cs + 0 + 0 ≤ 601024; omega) (by show ss + 0 + 0 ≤ 7293034; omega) (fun v h2 z => ?_)
  obtain ⟨e, F, M2⟩ := z
  cases e
  exact eh_icmp_eq (off := 54) (tgt := 2620) (by decide +kernel) rfl (fun _ => K h2 S' _ _ (C1.fs F) M2 A' (B1.fs hx hb F) (by show cs + 0 + 0 ≤ cs + 6; omega) (by show ss + 0 + 0 ≤ ss + 847; omega)) (fun n => absurd rfl n)
theorem k_image (hl : G.1.stackTraces = false) (hx : G.n0 ≤ x) (hb : b < G.n0) (hL : L ≤ 3072) (hi : i + 6 ≤ L) (C : CS G h x S) (M : MS G h (x + 192) S) (A : AbOk S) (B : LB G x tk b L xs h) (hc : cs + 6 ≤ 601024) (hs : ss + 847 ≤ 7293034) (K : Nx G hh x tk b L xs i cs ss P) : EvH G m_law hh 2571 (lc b x i) [] h cs ss P := by
  refine eh_aloadn (i := 1) (j := 1) rfl (by decide +kernel) rfl ?_
  obtain ⟨v0, S', iv, A', EC, EM⟩ := j_image (tk := tk) hl hx h S C A B.1 B.2.1
  have iv0 : v0 = none := iv
  subst iv0
  show EvH G m_law hh 2572 (lc b x i) (([] : List Value).reverse ++ .ref x :: []) h cs ss P
  refine eh_callN (q := m_Gr_image) (idx := 294) EC (fun E h' z => nomatch z.1) (wd_ok (k := 602) (by decide +kernel)) (wd_ok (k := 599) (by decide +kernel)) (wd_ok (k := 134) (by decide +kernel)) (wd_ok (k := 600) (by decide +kernel)) (wd_ok (k := 601) (by decide +kernel)) (by show plainB _ 0 = true; decide +kernel) (by decide) (by decide) (Or.inl ⟨9, 13, TX11, rfl, C.kd⟩) (by decide) (by decide +kernel) (by show cs + 0 ≤ 601024; omega) (by show ss + 0 ≤ 7293034; omega) (fun v h1 z => ?_)
  obtain ⟨e, g, C1⟩ := z
  cases e
  have M1 := M.gw B.1 g
  have B1 := B.gw hx hb g
  refine eh_aloadn (i := 2) (j := 2) rfl (by decide +kernel) rfl ?_
  show EvH G m_law hh 2576 (lc b x i) (([] : List Value).reverse ++ .ref (x + 192) :: []) h1 (cs + 0) (ss + 0) P
  refine eh_callN (q := m_Mo_image) (idx := 297) (EM h1 M1 B1.2.1 B1.2.2.1) (fun E h' z => nomatch z.1) (wd_ok (k := 1666) (by decide +kernel)) (wd_ok (k := 1663) (by decide +kernel)) (wd_ok (k := 144) (by decide +kernel)) (wd_ok (k := 1664) (by decide +kernel)) (wd_ok (k := 1665) (by decide +kernel)) (by show plainB _ 0 = true; decide +kernel) (by decide) (by decide) (Or.inl ⟨10, 25, TX12, rfl, M1.kd⟩) (by show 0 ≤ 8; decide) (by decide +kernel) (by show cs + 0 + 0 ≤ 601024; omega) (by show ss + 0 + 0 ≤ 7293034; omega) (fun v h2 z => ?_)
  obtain ⟨e, F, M2⟩ := z
  cases e
  exact eh_goto (off := 41) (tgt := 2620) (by decide +kernel) rfl (K h2 S' _ _ (C1.fs F) M2 A' (B1.fs hx hb F) (by show cs + 0 + 0 ≤ cs + 6; omega) (by show ss + 0 + 0 ≤ ss + 847; omega))
theorem k_back (hl : G.1.stackTraces = false) (hx : G.n0 ≤ x) (hb : b < G.n0) (hL : L ≤ 3072) (hi : i + 6 ≤ L) (C : CS G h x S) (M : MS G h (x + 192) S) (A : AbOk S) (B : LB G x tk b L xs h) (hc : cs + 6 ≤ 601024) (hs : ss + 847 ≤ 7293034) (K : Nx G hh x tk b L xs i cs ss P) : EvH G m_law hh 2582 (lc b x i) [] h cs ss P := by
  refine eh_aloadn (i := 1) (j := 1) rfl (by decide +kernel) rfl ?_
  obtain ⟨v0, S', iv, A', EC, EM⟩ := j_back (tk := tk) hl hx h S C A B.1 B.2.1
  obtain ⟨y, rfl⟩ : ∃ y, v0 = some (.int y) := iv
  show EvH G m_law hh 2583 (lc b x i) (([] : List Value).reverse ++ .ref x :: []) h cs ss P
  refine eh_callN (q := m_Gr_back) (idx := 298) EC (fun E h' z => nomatch z.1) (wd_ok (k := 606) (by decide +kernel)) (wd_ok (k := 603) (by decide +kernel)) (wd_ok (k := 134) (by decide +kernel)) (wd_ok (k := 604) (by decide +kernel)) (wd_ok (k := 605) (by decide +kernel)) (by show plainB _ 0 = true; decide +kernel) (by decide) (by decide) (Or.inl ⟨9, 13, TX11, rfl, C.kd⟩) (by decide) (by decide +kernel) (by show cs + 0 ≤ 601024; omega) (by show ss + 0 ≤ 7293034; omega) (fun v h1 z => ?_)
  obtain ⟨e, g, C1⟩ := z
  cases e
  have M1 := M.gw B.1 g
  have B1 := B.gw hx hb g
  refine eh_aloadn (i := 2) (j := 2) rfl (by decide +kernel) rfl ?_
  show EvH G m_law hh 2587 (lc b x i) (([] : List Value).reverse ++ .ref (x + 192) :: [.int y]) h1 (cs + 0) (ss + 0) P
  refine eh_callN (q := m_Mo_back) (idx := 301) (EM h1 M1 B1.2.1 B1.2.2.1) (fun E h' z => nomatch z.1) (wd_ok (k := 1670) (by decide +kernel)) (wd_ok (k := 1667) (by decide +kernel)) (wd_ok (k := 144) (by decide +kernel)) (wd_ok (k := 1668) (by decide +kernel)) (wd_ok (k := 1669) (by decide +kernel)) (by show plainB _ 0 = true; decide +kernel) (by decide) (by decide) (Or.inl ⟨10, 25, TX12, rfl, M1.kd⟩) (by show 1 ≤ 8; decide) (by decide +kernel) (by show cs + 0 + 0 ≤ 601024; omega) (by show ss + 0 + 0 ≤ 7293034; omega) (fun v h2 z => ?_)
  obtain ⟨e, F, M2⟩ := z
  cases e
  exact eh_icmp_eq (off := 30) (tgt := 2620) (by decide +kernel) rfl (fun _ => K h2 S' _ _ (C1.fs F) M2 A' (B1.fs hx hb F) (by show cs + 0 + 0 ≤ cs + 6; omega) (by show ss + 0 + 0 ≤ ss + 847; omega)) (fun n => absurd rfl n)
theorem k_count (hl : G.1.stackTraces = false) (hx : G.n0 ≤ x) (hb : b < G.n0) (hL : L ≤ 3072) (hi : i + 6 ≤ L) (C : CS G h x S) (M : MS G h (x + 192) S) (A : AbOk S) (B : LB G x tk b L xs h) (hc : cs + 6 ≤ 601024) (hs : ss + 847 ≤ 7293034) (K : Nx G hh x tk b L xs i cs ss P) : EvH G m_law hh 2595 (lc b x i) [] h cs ss P := by
  refine eh_aloadn (i := 1) (j := 1) rfl (by decide +kernel) rfl ?_
  refine la_arg (k := 1) (by decide +kernel) rfl rfl rfl (by omega) hL B ?_
  obtain ⟨v0, S', iv, A', EC, EM⟩ := j_count (tk := tk) hl hx (xs (i + 1)) h S C A B.1 B.2.1
  obtain ⟨y, rfl⟩ : ∃ y, v0 = some (.int y) := iv
  show EvH G m_law hh 2602 (lc b x i) (([.int (xs (i + 1))] : List Value).reverse ++ .ref x :: []) h cs ss P
  refine eh_callN (q := m_Gr_count) (idx := 302) EC (fun E h' z => nomatch z.1) (wd_ok (k := 614) (by decide +kernel)) (wd_ok (k := 611) (by decide +kernel)) (wd_ok (k := 134) (by decide +kernel)) (wd_ok (k := 612) (by decide +kernel)) (wd_ok (k := 613) (by decide +kernel)) (by show plainB _ 1 = true; decide +kernel) (by decide) (by decide) (Or.inl ⟨9, 13, TX11, rfl, C.kd⟩) (by decide) (by decide +kernel) (by show cs + 0 ≤ 601024; omega) (by show ss + 0 ≤ 7293034; omega) (fun v h1 z => ?_)
  obtain ⟨e, g, C1⟩ := z
  cases e
  have M1 := M.gw B.1 g
  have B1 := B.gw hx hb g
  refine eh_aloadn (i := 2) (j := 2) rfl (by decide +kernel) rfl ?_
  refine la_arg (k := 1) (by decide +kernel) rfl rfl rfl (by omega) hL B1 ?_
  show EvH G m_law hh 2612 (lc b x i) (([.int (xs (i + 1))] : List Value).reverse ++ .ref (x + 192) :: [.int y]) h1 (cs + 0) (ss + 0) P
  refine eh_callN (q := m_Mo_count) (idx := 305) (EM h1 M1 B1.2.1 B1.2.2.1) (fun E h' z => nomatch z.1) (wd_ok (k := 2307) (by decide +kernel)) (wd_ok (k := 2304) (by decide +kernel)) (wd_ok (k := 144) (by decide +kernel)) (wd_ok (k := 2305) (by decide +kernel)) (wd_ok (k := 2306) (by decide +kernel)) (by show plainB _ 1 = true; decide +kernel) (by decide) (by decide) (Or.inl ⟨10, 25, TX12, rfl, M1.kd⟩) (by show 1 ≤ 8; decide) (by decide +kernel) (by show cs + 0 + 0 ≤ 601024; omega) (by show ss + 0 + 0 ≤ 7293034; omega) (fun v h2 z => ?_)
  obtain ⟨e, F, M2⟩ := z
  cases e
  exact eh_icmp_eq (off := 5) (tgt := 2620) (by decide +kernel) rfl (fun _ => K h2 S' _ _ (C1.fs F) M2 A' (B1.fs hx hb F) (by show cs + 0 + 0 ≤ cs + 6; omega) (by show ss + 0 + 0 ≤ ss + 847; omega)) (fun n => absurd rfl n)
end LWC
