/-! ===== the law's loop, and its start (printed by wip/whole/loop.py) ===== -/
def swO : Array Int := #[212, 285, 310, 354, 398, 411, 479, 547, 615, 671, 739, 795, 851, 907, 975, 1043, 1134, 1190, 1258, 1354, 1367, 1380, 1393, 1449, 1493, 1537, 1581, 1653, 1697, 1760, 1816, 1872, 1928, 1984, 2040, 2053, 2066, 2079, 2092, 2105, 2173, 2257, 2341, 2425, 2493, 2518, 2531, 2542, 2555]
theorem and63 (y : Int32) : ∃ k, k < 64 ∧ y &&& 63 = nI k := by
  have h2 : (y &&& 63).toBitVec = y.toBitVec &&& 63#32 := rfl
  have h1 : (y &&& 63).toBitVec.toNat < 64 := by
    rw [h2, BitVec.toNat_and]
    exact Nat.lt_of_le_of_lt Nat.and_le_right (by decide)
  refine ⟨(y &&& 63).toBitVec.toNat, h1, ?_⟩
  apply Int32.toBitVec_inj.mp
  show _ = BitVec.ofNat 32 (y &&& 63).toBitVec.toNat
  rw [BitVec.ofNat_toNat, BitVec.setWidth_eq]
theorem sw_hi : ∀ k, k < 64 → 49 ≤ k → (48 : Int) < (nI k).toInt := by decide
theorem lo6 : ∀ L, L < 6 → ∀ i, i < 6 → nI L - 6 < nI i := by decide
theorem more6 {L i : Nat} (hL : L ≤ 3072) (hi : i ≤ L) (n : ¬ nI L - 6 < nI i) : i + 6 ≤ L := by
  by_cases c : i + 6 ≤ L
  · exact c
  · exfalso
    apply n
    by_cases c6 : L < 6
    · exact lo6 L c6 i (by omega)
    · have e : nI L - 6 = nI (L - 6) := by
        have : nI (L - 6) + nI 6 = nI L := by rw [nI_add]; congr 1; omega
        rw [← this]; show nI (L - 6) + 6 - 6 = _; exact Int32.add_sub_cancel _ _
      rw [e]
      exact nI_lt (by omega) (by omega)
section LWL
variable {G : Gx} {hh : Hd} {x b L : Nat} {tk : Nat → Nat} {xs : Nat → Int32} {P : Res → Hp → Prop}
theorem l_switch (hl : G.1.stackTraces = false) (hx : G.n0 ≤ x) (hb : b < G.n0) (hL : L ≤ 3072) {h : Hp} {S : Ab} {i cs ss : Nat} (hi : i + 6 ≤ L) (C : CS G h x S) (M : MS G h (x + 192) S) (A : AbOk S) (B : LB G x tk b L xs h) (hc : cs + 6 ≤ 601024) (hs : ss + 847 ≤ 7293034) (K : Nx G hh x tk b L xs i cs ss P) (y : Int32) : EvH G m_law hh 40 (lc b x i) [.int (y &&& 63)] h cs ss P := by
  have SW : decode m_law.2.1 40 = .ok (.tableswitch 2580 0 48 swO, 212) := by decide +kernel
  obtain ⟨k, hk, e⟩ := and63 y
  rw [e]
  by_cases c : 49 ≤ k
  · exact eh_tabOut (tgt := 2620) SW (Or.inr (sw_hi k hk c)) rfl (K h S cs ss C M A B (by omega) (by omega))
  · obtain rfl | rfl | rfl | rfl | rfl | rfl | rfl | rfl | rfl | rfl | rfl | rfl | rfl | rfl | rfl | rfl | rfl | rfl | rfl | rfl | rfl | rfl | rfl | rfl | rfl | rfl | rfl | rfl | rfl | rfl | rfl | rfl | rfl | rfl | rfl | rfl | rfl | rfl | rfl | rfl | rfl | rfl | rfl | rfl | rfl | rfl | rfl | rfl | rfl : k = 0 ∨ k = 1 ∨ k = 2 ∨ k = 3 ∨ k = 4 ∨ k = 5 ∨ k = 6 ∨ k = 7 ∨ k = 8 ∨ k = 9 ∨ k = 10 ∨ k = 11 ∨ k = 12 ∨ k = 13 ∨ k = 14 ∨ k = 15 ∨ k = 16 ∨ k = 17 ∨ k = 18 ∨ k = 19 ∨ k = 20 ∨ k = 21 ∨ k = 22 ∨ k = 23 ∨ k = 24 ∨ k = 25 ∨ k = 26 ∨ k = 27 ∨ k = 28 ∨ k = 29 ∨ k = 30 ∨ k = 31 ∨ k = 32 ∨ k = 33 ∨ k = 34 ∨ k = 35 ∨ k = 36 ∨ k = 37 ∨ k = 38 ∨ k = 39 ∨ k = 40 ∨ k = 41 ∨ k = 42 ∨ k = 43 ∨ k = 44 ∨ k = 45 ∨ k = 46 ∨ k = 47 ∨ k = 48 := by omega
    · exact eh_tabIn (off := 212) (tgt := 252) SW (by decide) (by decide) (by decide) rfl (k_feed hl hx hb hL hi C M A B hc hs K)
    · exact eh_tabIn (off := 285) (tgt := 325) SW (by decide) (by decide) (by decide) rfl (k_end hl hx hb hL hi C M A B hc hs K)
    · exact eh_tabIn (off := 310) (tgt := 350) SW (by decide) (by decide) (by decide) rfl (k_valley hl hx hb hL hi C M A B hc hs K)
    · exact eh_tabIn (off := 354) (tgt := 394) SW (by decide) (by decide) (by decide) rfl (k_law hl hx hb hL hi C M A B hc hs K)
    · exact eh_tabIn (off := 398) (tgt := 438) SW (by decide) (by decide) (by decide) rfl (k_fault hl hx hb hL hi C M A B hc hs K)
    · exact eh_tabIn (off := 411) (tgt := 451) SW (by decide) (by decide) (by decide) rfl (k_person hl hx hb hL hi C M A B hc hs K)
    · exact eh_tabIn (off := 479) (tgt := 519) SW (by decide) (by decide) (by decide) rfl (k_thing hl hx hb hL hi C M A B hc hs K)
    · exact eh_tabIn (off := 547) (tgt := 587) SW (by decide) (by decide) (by decide) rfl (k_shuts hl hx hb hL hi C M A B hc hs K)
    · exact eh_tabIn (off := 615) (tgt := 655) SW (by decide) (by decide) (by decide) rfl (k_nights hl hx hb hL hi C M A B hc hs K)
    · exact eh_tabIn (off := 671) (tgt := 711) SW (by decide) (by decide) (by decide) rfl (k_lay hl hx hb hL hi C M A B hc hs K)
    · exact eh_tabIn (off := 739) (tgt := 779) SW (by decide) (by decide) (by decide) rfl (k_clear hl hx hb hL hi C M A B hc hs K)
    · exact eh_tabIn (off := 795) (tgt := 835) SW (by decide) (by decide) (by decide) rfl (k_wake hl hx hb hL hi C M A B hc hs K)
    · exact eh_tabIn (off := 851) (tgt := 891) SW (by decide) (by decide) (by decide) rfl (k_open hl hx hb hL hi C M A B hc hs K)
    · exact eh_tabIn (off := 907) (tgt := 947) SW (by decide) (by decide) (by decide) rfl (k_swap hl hx hb hL hi C M A B hc hs K)
    · exact eh_tabIn (off := 975) (tgt := 1015) SW (by decide) (by decide) (by decide) rfl (k_heir hl hx hb hL hi C M A B hc hs K)
    · exact eh_tabIn (off := 1043) (tgt := 1083) SW (by decide) (by decide) (by decide) rfl (k_tie hl hx hb hL hi C M A B hc hs K)
    · exact eh_tabIn (off := 1134) (tgt := 1174) SW (by decide) (by decide) (by decide) rfl (k_born hl hx hb hL hi C M A B hc hs K)
    · exact eh_tabIn (off := 1190) (tgt := 1230) SW (by decide) (by decide) (by decide) rfl (k_give hl hx hb hL hi C M A B hc hs K)
    · exact eh_tabIn (off := 1258) (tgt := 1298) SW (by decide) (by decide) (by decide) rfl (k_hoard hl hx hb hL hi C M A B hc hs K)
    · exact eh_tabIn (off := 1354) (tgt := 1394) SW (by decide) (by decide) (by decide) rfl (k_round hl hx hb hL hi C M A B hc hs K)
    · exact eh_tabIn (off := 1367) (tgt := 1407) SW (by decide) (by decide) (by decide) rfl (k_escheat hl hx hb hL hi C M A B hc hs K)
    · exact eh_tabIn (off := 1380) (tgt := 1420) SW (by decide) (by decide) (by decide) rfl (k_watch hl hx hb hL hi C M A B hc hs K)
    · exact eh_tabIn (off := 1393) (tgt := 1433) SW (by decide) (by decide) (by decide) rfl (k_put hl hx hb hL hi C M A B hc hs K)
    · exact eh_tabIn (off := 1449) (tgt := 1489) SW (by decide) (by decide) (by decide) rfl (k_held hl hx hb hL hi C M A B hc hs K)
    · exact eh_tabIn (off := 1493) (tgt := 1533) SW (by decide) (by decide) (by decide) rfl (k_likely hl hx hb hL hi C M A B hc hs K)
    · exact eh_tabIn (off := 1537) (tgt := 1577) SW (by decide) (by decide) (by decide) rfl (k_ask hl hx hb hL hi C M A B hc hs K)
    · exact eh_tabIn (off := 1581) (tgt := 1621) SW (by decide) (by decide) (by decide) rfl (k_strong hl hx hb hL hi C M A B hc hs K)
    · exact eh_tabIn (off := 1653) (tgt := 1693) SW (by decide) (by decide) (by decide) rfl (k_test hl hx hb hL hi C M A B hc hs K)
    · exact eh_tabIn (off := 1697) (tgt := 1737) SW (by decide) (by decide) (by decide) rfl (k_fingers hl hx hb hL hi C M A B hc hs K)
    · exact eh_tabIn (off := 1760) (tgt := 1800) SW (by decide) (by decide) (by decide) rfl (k_opens hl hx hb hL hi C M A B hc hs K)
    · exact eh_tabIn (off := 1816) (tgt := 1856) SW (by decide) (by decide) (by decide) rfl (k_pairs hl hx hb hL hi C M A B hc hs K)
    · exact eh_tabIn (off := 1872) (tgt := 1912) SW (by decide) (by decide) (by decide) rfl (k_rests hl hx hb hL hi C M A B hc hs K)
    · exact eh_tabIn (off := 1928) (tgt := 1968) SW (by decide) (by decide) (by decide) rfl (k_odds hl hx hb hL hi C M A B hc hs K)
    · exact eh_tabIn (off := 1984) (tgt := 2024) SW (by decide) (by decide) (by decide) rfl (k_most hl hx hb hL hi C M A B hc hs K)
    · exact eh_tabIn (off := 2040) (tgt := 2080) SW (by decide) (by decide) (by decide) rfl (k_living hl hx hb hL hi C M A B hc hs K)
    · exact eh_tabIn (off := 2053) (tgt := 2093) SW (by decide) (by decide) (by decide) rfl (k_idle hl hx hb hL hi C M A B hc hs K)
    · exact eh_tabIn (off := 2066) (tgt := 2106) SW (by decide) (by decide) (by decide) rfl (k_crown hl hx hb hL hi C M A B hc hs K)
    · exact eh_tabIn (off := 2079) (tgt := 2119) SW (by decide) (by decide) (by decide) rfl (k_wealth hl hx hb hL hi C M A B hc hs K)
    · exact eh_tabIn (off := 2092) (tgt := 2132) SW (by decide) (by decide) (by decide) rfl (k_twins hl hx hb hL hi C M A B hc hs K)
    · exact eh_tabIn (off := 2105) (tgt := 2145) SW (by decide) (by decide) (by decide) rfl (k_ahead hl hx hb hL hi C M A B hc hs K)
    · exact eh_tabIn (off := 2173) (tgt := 2213) SW (by decide) (by decide) (by decide) rfl (k_trial hl hx hb hL hi C M A B hc hs K)
    · exact eh_tabIn (off := 2257) (tgt := 2297) SW (by decide) (by decide) (by decide) rfl (k_span hl hx hb hL hi C M A B hc hs K)
    · exact eh_tabIn (off := 2341) (tgt := 2381) SW (by decide) (by decide) (by decide) rfl (k_led hl hx hb hL hi C M A B hc hs K)
    · exact eh_tabIn (off := 2425) (tgt := 2465) SW (by decide) (by decide) (by decide) rfl (k_log hl hx hb hL hi C M A B hc hs K)
    · exact eh_tabIn (off := 2493) (tgt := 2533) SW (by decide) (by decide) (by decide) rfl (k_seed hl hx hb hL hi C M A B hc hs K)
    · exact eh_tabIn (off := 2518) (tgt := 2558) SW (by decide) (by decide) (by decide) rfl (k_undo hl hx hb hL hi C M A B hc hs K)
    · exact eh_tabIn (off := 2531) (tgt := 2571) SW (by decide) (by decide) (by decide) rfl (k_image hl hx hb hL hi C M A B hc hs K)
    · exact eh_tabIn (off := 2542) (tgt := 2582) SW (by decide) (by decide) (by decide) rfl (k_back hl hx hb hL hi C M A B hc hs K)
    · exact eh_tabIn (off := 2555) (tgt := 2595) SW (by decide) (by decide) (by decide) rfl (k_count hl hx hb hL hi C M A B hc hs K)
theorem l_loop (hl : G.1.stackTraces = false) (hx : G.n0 ≤ x) (hb : b < G.n0) (hL : L ≤ 3072) (hP : ∀ h, P (.inl (some (.int 1))) h) : ∀ f i h S cs ss, L - i ≤ f → i ≤ L → CS G h x S → MS G h (x + 192) S → AbOk S → LB G x tk b L xs h → cs + (L - i) ≤ 601024 → ss + 847 * (L - i) ≤ 7293034 → EvH G m_law hh 23 (lc b x i) [] h cs ss P := by
  intro f
  induction f with
  | zero =>
    intro i h S cs ss hf hi C M A B hc hs
    obtain rfl : i = L := by omega
    refine eh_iload (i := 4) (by decide +kernel) rfl ?_
    refine eh_aloadn (i := 0) (j := 0) rfl (by decide +kernel) rfl ?_
    refine eh_alen (j := 0) (v := nI i) B.2.2.2.2.1 rfl (by decide +kernel) ?_
    refine eh_bipush (n := 6) (v := 6) (by decide +kernel) rfl ?_
    refine eh_isub (by decide +kernel) ?_
    refine eh_icmp_gt (off := 2596) (tgt := 2626) (by decide +kernel) rfl (fun _ => ?_) (fun n => absurd (more6 hL hi n) (by omega))
    refine eh_iconst (n := 1) (v := 1) (by decide +kernel) rfl ?_
    exact eh_iret (ty := .boolean) rfl rfl (by decide +kernel) (hP h)
  | succ f ih =>
    intro i h S cs ss hf hi C M A B hc hs
    refine eh_iload (i := 4) (by decide +kernel) rfl ?_
    refine eh_aloadn (i := 0) (j := 0) rfl (by decide +kernel) rfl ?_
    refine eh_alen (j := 0) (v := nI L) B.2.2.2.2.1 rfl (by decide +kernel) ?_
    refine eh_bipush (n := 6) (v := 6) (by decide +kernel) rfl ?_
    refine eh_isub (by decide +kernel) ?_
    refine eh_icmp_gt (off := 2596) (tgt := 2626) (by decide +kernel) rfl (fun _ => ?_) (fun n => ?_)
    · refine eh_iconst (n := 1) (v := 1) (by decide +kernel) rfl ?_
      exact eh_iret (ty := .boolean) rfl rfl (by decide +kernel) (hP h)
    · have h6 := more6 hL hi n
      refine eh_aloadn (i := 0) (j := 0) rfl (by decide +kernel) rfl ?_
      refine eh_iload (i := 4) (by decide +kernel) rfl ?_
      refine eh_iald (v := .int (xs i)) B.2.2.2.2.1 (vp_in_nI (show i < L by omega) (by omega)) (by rw [nI_clamp (by omega)]; exact B.2.2.2.2.2 i (by omega)) (by decide +kernel) ?_
      refine eh_bipush (n := 63) (v := 63) (by decide +kernel) rfl ?_
      refine eh_iand (by decide +kernel) ?_
      refine l_switch hl hx hb hL h6 C M A B (by omega) (by omega) (fun h' S' cs' ss' C' M' A' B' hc' hs' => ?_) (xs i)
      refine eh_iinc (i := 4) (n := 6) (v := 6) (by decide +kernel) rfl rfl (by decide) ?_
      refine eh_goto (off := -2600) (tgt := 23) (by decide +kernel) rfl ?_
      show EvH G m_law hh 23 [.ref b, .ref x, .ref (x + 192), .ref (x + 208), .int (nI i + 6), un, un] [] h' cs' ss' P
      rw [show nI i + 6 = nI (i + 6) from nI_add i 6]
      exact ih (i + 6) h' S' cs' ss' (by omega) (by omega) C' M' A' B' (by omega) (by omega)
theorem df_11 : ∀ j, j = 0 ∨ j = 6 ∨ j = 7 ∨ j = 9 ∨ j = 10 ∨ j = 11 ∨ j = 12 ∨ j = 13 ∨ j = 16 → dflt 10 j = .int 0 := fun j hj => by
  rcases hj with rfl | rfl | rfl | rfl | rfl | rfl | rfl | rfl | rfl <;> decide +kernel
theorem l_start (hl : G.1.stackTraces = false) (hb : b < G.n0) (hL : L ≤ 3072) {h0 : Hp} (hn : G.n0 ≤ h0.2.2) (O : Old G h0 tk) (Lg : LitG G h0) (sb : h0.1 b = (101, L)) (sx : ∀ j, j < L → h0.2.1 b j = .int (xs j)) (hP : ∀ h, P (.inl (some (.int 1))) h) : EvH G m_law hh 0 [.ref b, un, un, un, un, un, un] [] h0 0 0 P := by
  refine eh_new (ci := 9) (idx := 8) (C := RX11) (T := TX11) (N := 13) (f := dflt 9) rfl (wd_ok (k := 163) (by decide +kernel)) (wd_ok (k := 164) (by decide +kernel)) (wd_ok (k := 134) (by decide +kernel)) (dflt_ok rfl) (by decide +kernel) (by decide) (by decide) ?_
  refine eh_dup (by decide +kernel) rfl ?_
  show EvH G m_law hh 4 [.ref b, un, un, un, un, un, un] (([] : List Value).reverse ++ .ref h0.2.2 :: [.ref h0.2.2]) (hnew h0 (10, 13) (dflt 9)) 1 13 P
  refine eh_callI (q := m_Gr_init) (idx := 126) (i_Gr (x := h0.2.2) hl hn rfl hn_1 (fun _ => A0)) (fun E h' z => nomatch z.1) rfl (wd_ok (k := 167) (by decide +kernel)) (wd_ok (k := 165) (by decide +kernel)) (wd_ok (k := 134) (by decide +kernel)) (wd_ok (k := 166) (by decide +kernel)) rfl (by show plainB _ 0 = true; decide +kernel) (by decide) (by decide) (by show 1 ≤ 8; decide) (by decide +kernel) (by decide) (by decide) (fun v h1 z => ?_)
  obtain ⟨e, ⟨s1, n1⟩, C1⟩ := z
  cases e
  have ol1 : ∀ a, a < h0.2.2 → h1.1 a = h0.1 a ∧ h1.2.1 a = h0.2.1 a := fun a ha => by
    have y := s1 a (Nat.zero_le _) ha
    have z := hn_o (h := h0) (q := (10, 13)) (f := dflt 9) (a := a) (by omega)
    exact ⟨y.1.trans z.1, y.2.trans z.2⟩
  generalize ex : h0.2.2 = x at *
  show EvH G m_law hh 7 [.ref b, un, un, un, un, un, un] [.ref x] h1 (1 + 200) (13 + 9000) P
  refine eh_astoren (i := 1) (j := 1) rfl (by decide +kernel) (by decide) ?_
  refine eh_new (ci := 10) (idx := 127) (C := RX12) (T := TX12) (N := 25) (f := dflt 10) rfl (wd_ok (k := 1580) (by decide +kernel)) (wd_ok (k := 1581) (by decide +kernel)) (wd_ok (k := 144) (by decide +kernel)) (dflt_ok rfl) (by decide +kernel) (by decide) (by decide) ?_
  refine eh_dup (by decide +kernel) rfl ?_
  rw [n1]
  show EvH G m_law hh 12 [.ref b, .ref x, un, un, un, un, un] (([] : List Value).reverse ++ .ref (x + 192) :: [.ref (x + 192)]) (hnew h1 (11, 25) (dflt 10)) (1 + 200 + 1) (13 + 9000 + 25) P
  refine eh_callI (q := m_Mo_init) (idx := 129) (i_Mo (o := x + 192) hl (by omega) (by show h1.2.2 + 1 = _; rw [n1]) (by have := @hn_1 h1 (11, 25) (dflt 10); rw [n1] at this; exact this)) (fun E h' z => nomatch z.1) rfl (wd_ok (k := 1584) (by decide +kernel)) (wd_ok (k := 1582) (by decide +kernel)) (wd_ok (k := 144) (by decide +kernel)) (wd_ok (k := 1583) (by decide +kernel)) rfl (by show plainB _ 0 = true; decide +kernel) (by decide) (by decide) (by show 1 ≤ 8; decide) (by decide +kernel) (by decide) (by decide) (fun v h2 z => ?_)
  obtain ⟨e, W2, S2, z1, z5, z6, zu, z14⟩ := z
  cases e
  have W3 := W2.un n1
  have M2 : MT G h2 (x + 192) A0 (fun _ _ _ => 0) (-1) none (fun _ => A0) 0 b0 0 (-1) := m_start hl S2 z1 z5 z6 (fun j hj => by
    rw [zu j hj]
    have := @hn_2 h1 (11, 25) (dflt 10)
    rw [n1] at this
    rw [this]; exact df_11 j hj) z14 _
  have n2 : h2.2.2 = x + 208 := W3.2
  have C2 := C1.grow (h' := h2) (by omega) (fun a ha => W3.1 a (by omega)) (by omega)
  have ol2 : ∀ a, a < x → h2.1 a = h0.1 a ∧ h2.2.1 a = h0.2.1 a := fun a ha => by
    have y := W3.1 a (by omega)
    have z := ol1 a ha
    exact ⟨y.1.trans z.1, y.2.trans z.2⟩
  show EvH G m_law hh 15 [.ref b, .ref x, un, un, un, un, un] [.ref (x + 192)] h2 (1 + 200 + 1 + 15) (13 + 9000 + 25 + 18953) P
  refine eh_astoren (i := 2) (j := 2) rfl (by decide +kernel) (by decide) ?_
  refine eh_iconst (n := 1) (v := 1) (by decide +kernel) rfl ?_
  refine eh_newa (j := 3) (at_ := .long) (N := 1) (v := defaultValue (aty 3)) (wd_ok (k := 2312) (by decide +kernel)) rfl (by decide) rfl (by decide) (by decide) (by decide) (by decide +kernel) (by decide) (by decide) ?_
  have e3 : ∀ a, a < x + 208 → (hnew h2 (104, 1) (fun _ => defaultValue (aty 3))).1 a = h2.1 a ∧ (hnew h2 (104, 1) (fun _ => defaultValue (aty 3))).2.1 a = h2.2.1 a := fun a ha => hn_o (by omega)
  have e8 : (hnew h2 (104, 1) (fun _ => defaultValue (aty 3))).1 (x + 208) = (104, 1) := by have := @hn_1 h2 (104, 1) (fun _ => defaultValue (aty 3)); rw [n2] at this; exact this
  have n3 : (hnew h2 (104, 1) (fun _ => defaultValue (aty 3))).2.2 = x + 209 := by show h2.2.2 + 1 = _; rw [n2]
  rw [n2]
  show EvH G m_law hh 19 [.ref b, .ref x, .ref (x + 192), un, un, un, un] [.ref (x + 208)] (hnew h2 (104, 1) (fun _ => defaultValue (aty 3))) 218 27992 P
  generalize hnew h2 (104, 1) (fun _ => defaultValue (aty 3)) = h3 at *
  have C3 := C2.grow (h' := h3) (by omega) (fun a ha => e3 a (by omega)) (by omega)
  have M3 := M2.grow (h' := h3) (N := x + 208) (by omega) (fun a ha => ⟨(e3 a ha).1, fun j _ => by rw [(e3 a ha).2]⟩)
  have ol3 : ∀ a, a < G.n0 → h3.1 a = h0.1 a ∧ h3.2.1 a = h0.2.1 a := fun a ha => by
    have y := e3 a (by omega)
    have z := ol2 a (by omega)
    exact ⟨y.1.trans z.1, y.2.trans z.2⟩
  refine eh_astoren (i := 3) (j := 3) rfl (by decide +kernel) (by decide) ?_
  refine eh_iconst (n := 0) (v := 0) (by decide +kernel) rfl ?_
  refine eh_istore (i := 4) (by decide +kernel) (by decide) ?_
  exact l_loop hl hn hb hL hP L 0 h3 ((A0, fun _ _ _ => 0, -1, none, fun _ => A0, 0, b0, 0, -1) : Ab) _ _ (by omega) (Nat.zero_le _) ⟨_, C3⟩ M3 ⟨A0_wf, fun i hi => absurd hi (Nat.not_lt_zero i), fun q hq => nomatch hq⟩ ⟨by omega, O.keep ol3, Lg.keep ol3, e8, by rw [(ol3 b hb).1]; exact sb, fun j hj => by rw [(ol3 b hb).2]; exact sx j hj⟩ (by omega) (by omega)
end LWL
