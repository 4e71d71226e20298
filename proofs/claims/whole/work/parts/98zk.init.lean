/-! ===== where the abstract machine begins: out of the given words (the head is printed by wip/whole/initgen.py) ===== -/
def FL : List Cond := flatC (Jvm.Cond.and given_1 narrow_1)
def fa (k : Nat) (w : Cond) : Bool := decide (FL[k]? = some w)
theorem fa_ok {k : Nat} {w : Cond} (h : fa k w = true) : w ∈ FL := List.mem_of_getElem? (of_decide_eq_true h)
def wc (k : Nat) (w : Cond) : Bool := decide ((chunk ((k - 133) / 240))[(k - 133) % 240]? = some w)
theorem wc_ok {k : Nat} {w : Cond} (h : wc k w = true) : w ∈ lw_tbl := chunk_in _ w (List.mem_of_getElem? (of_decide_eq_true h))
/-- every word of a list stands at its place -/
theorem zip_ok {α : Type} {f : α → Cond} {c : Nat → Cond → Bool} {T : List Cond} (hc : ∀ k w, c k w = true → w ∈ T) : ∀ (xs : List α) (ks : List Nat), ks.length = xs.length → (xs.zip ks).all (fun q => c q.2 (f q.1)) = true → ∀ q ∈ xs, f q ∈ T
  | [], _, _, _, _, h => absurd h List.not_mem_nil
  | x :: xs, [], e, _, _, _ => nomatch e
  | x :: xs, k :: ks, e, h, q, hq => by
    simp only [List.zip_cons_cons, List.all_cons, Bool.and_eq_true] at h
    rcases List.mem_cons.mp hq with rfl | hq
    · exact hc _ _ h.1
    · exact zip_ok hc xs ks (Nat.succ.inj e) h.2 q hq
def stT (i : Nat) : Term := match sts[i]? with
  | some q => .static q.1 q.2.1 q.2.2
  | none => .null
def liT (i : Nat) : Term := match lits[i]? with
  | some q => .string q.1 q.2.1
  | none => .null
/-- the text of a word or sign, among the texts -/
def tli (o : Nat) : Nat := ([26, 26, 26, 27, 28, 29, 30, 31, 32, 33, 34, 35, 36, 37, 38, 39, 40, 41, 43, 44, 45, 53, 52, 46, 54, 55, 56, 57, 58, 42, 47, 48, 49, 50, 51] : List Nat).getD o 0
def lbs : List (List Nat) := [[112, 101, 114, 115, 111, 110], [97, 103, 101], [103, 114, 105, 112], [104, 101, 105, 114], [116, 105, 101, 100], [116, 104, 105, 110, 103], [119, 111, 114, 116, 104], [115, 105, 122, 101], [111, 102], [104, 101, 108, 100], [99, 108, 111, 116, 104], [99, 114, 111, 119, 110], [100, 101, 97, 116, 104], [119, 105, 116, 110, 101, 115, 115, 101, 115], [110, 105, 103, 104, 116], [115, 108, 105, 112], [102, 97, 105, 108], [105, 102], [110, 111, 116], [111, 112, 101, 110], [97, 108, 111, 110, 101], [104, 97, 110, 100], [111, 119, 110, 115], [108, 97, 105, 100], [97, 110, 100], [111, 114], [], [112, 101, 114, 115, 111, 110], [97, 103, 101], [103, 114, 105, 112], [104, 101, 105, 114], [116, 105, 101, 100], [116, 104, 105, 110, 103], [119, 111, 114, 116, 104], [115, 105, 122, 101], [111, 102], [104, 101, 108, 100], [99, 108, 111, 116, 104], [99, 114, 111, 119, 110], [100, 101, 97, 116, 104], [119, 105, 116, 110, 101, 115, 115, 101, 115], [110, 105, 103, 104, 116], [59], [115, 108, 105, 112], [102, 97, 105, 108], [105, 102], [110, 111, 116], [40], [41], [43], [60], [62], [97, 110, 100], [111, 114], [111, 112, 101, 110], [97, 108, 111, 110, 101], [104, 97, 110, 100], [111, 119, 110, 115], [108, 97, 105, 100]]
def lby (i : Nat) : List Nat := lbs.getD i []
def lps (i : Nat) : Nat := ([307, 317, 324, 332, 340, 348, 357, 366, 374, 380, 388, 397, 406, 415, 428, 437, 445, 453, 459, 466, 474, 483, 491, 499, 507, 514, 520, 524, 535, 543, 552, 561, 570, 580, 590, 599, 606, 615, 625, 635, 645, 659, 669, 674, 683, 692, 699, 707, 712, 717, 722, 727, 732, 740, 747, 756, 766, 775, 784] : List Nat).getD i 0
def tks (o : Nat) : Nat × Nat × Nat × Nat × Nat := ([(57, 58, 59, 60, 13), (4, 5, 6, 7, 14), (53, 54, 55, 56, 15), (61, 62, 63, 64, 16), (65, 66, 67, 68, 17), (69, 70, 71, 72, 18), (73, 74, 75, 76, 19), (77, 78, 79, 80, 20), (81, 82, 83, 84, 21), (85, 86, 87, 88, 22), (89, 90, 91, 92, 23), (93, 94, 95, 96, 24), (97, 98, 99, 100, 25), (101, 102, 103, 104, 26), (105, 106, 107, 108, 27), (109, 110, 111, 112, 28), (113, 114, 115, 116, 29), (117, 118, 119, 120, 30), (127, 128, 129, 130, 31), (131, 132, 133, 134, 32), (135, 136, 137, 138, 33), (167, 168, 169, 170, 34), (163, 164, 165, 166, 35), (139, 140, 141, 142, 36), (171, 172, 173, 174, 37), (175, 176, 177, 178, 38), (179, 180, 181, 182, 39), (183, 184, 185, 186, 40), (187, 188, 189, 190, 41), (121, 122, 123, 124, 42), (143, 144, 145, 146, 43), (147, 148, 149, 150, 44), (151, 152, 153, 154, 45), (155, 156, 157, 158, 46), (159, 160, 161, 162, 47)] : List (Nat × Nat × Nat × Nat × Nat)).getD o (0, 0, 0, 0, 0)
def svs (i : Nat) : Nat × Nat := ([(0, 4), (1, 8), (2, 48), (1, 49), (2, 50), (3, 51), (4, 52), (0, 53), (0, 57), (0, 61), (0, 65), (0, 69), (0, 73), (0, 77), (0, 81), (0, 85), (0, 89), (0, 93), (0, 97), (0, 101), (0, 105), (0, 109), (0, 113), (0, 117), (0, 121), (0, 127), (0, 131), (0, 135), (0, 139), (0, 143), (0, 147), (0, 151), (0, 155), (0, 159), (0, 163), (0, 167), (0, 171), (0, 175), (0, 179), (0, 183), (0, 187)] : List (Nat × Nat)).getD i (0, 0)
abbrev vlT (i : Nat) : Term := .field (liT i) "java/lang/String" "value" "[B"
/-- what is said of a text -/
def liP (i : Nat) : Prop := (Cond.exactly (liT i) "java/lang/String" ∈ FL ∧ Cond.eq (.field (liT i) "java/lang/String" "coder" "B") (.int 0) ∈ FL ∧ Cond.arrayOf (vlT i) .byte ∈ FL ∧ Cond.eq (.length (vlT i)) (.int (Int32.ofNat (lby i).length)) ∈ FL) ∧ ∀ j, j < (lby i).length → Cond.eq (.elem (vlT i) (.int (Int32.ofNat j))) (.int (nI ((lby i).getD j 0))) ∈ FL
def liB (i : Nat) : Bool := (fa (lps i) (Cond.exactly (liT i) "java/lang/String") && (fa (lps i + 1) (Cond.eq (.field (liT i) "java/lang/String" "coder" "B") (.int 0)) && (fa (lps i + 2) (Cond.arrayOf (vlT i) .byte) && fa (lps i + 3) (Cond.eq (.length (vlT i)) (.int (Int32.ofNat (lby i).length)))))) && (List.range (lby i).length).all (fun j => fa (lps i + 4 + j) (Cond.eq (.elem (vlT i) (.int (Int32.ofNat j))) (.int (nI ((lby i).getD j 0)))))
theorem liB_ok {i : Nat} (h : liB i = true) : liP i := by
  simp only [liB, Bool.and_eq_true, List.all_eq_true, List.mem_range] at h
  exact ⟨⟨fa_ok h.1.1, fa_ok h.1.2.1, fa_ok h.1.2.2.1, fa_ok h.1.2.2.2⟩, fun j hj => fa_ok (h.2 j hj)⟩
set_option maxRecDepth 100000 in
theorem ck_l0 : ∀ i, i < 10 → liB (i + 0) = true := by decide +kernel
set_option maxRecDepth 100000 in
theorem ck_l1 : ∀ i, i < 10 → liB (i + 10) = true := by decide +kernel
set_option maxRecDepth 100000 in
theorem ck_l2 : ∀ i, i < 10 → liB (i + 20) = true := by decide +kernel
set_option maxRecDepth 100000 in
theorem ck_l3 : ∀ i, i < 10 → liB (i + 30) = true := by decide +kernel
set_option maxRecDepth 100000 in
theorem ck_l4 : ∀ i, i < 10 → liB (i + 40) = true := by decide +kernel
set_option maxRecDepth 100000 in
theorem ck_l5 : ∀ i, i < 9 → liB (i + 50) = true := by decide +kernel
theorem ck_li (i : Nat) (hi : i < 59) : liP i := by
  by_cases c0 : i < 10
  · have := liB_ok (ck_l0 (i - 0) (by omega))
    rw [show i - 0 + 0 = i by omega] at this
    exact this
  by_cases c1 : i < 20
  · have := liB_ok (ck_l1 (i - 10) (by omega))
    rw [show i - 10 + 10 = i by omega] at this
    exact this
  by_cases c2 : i < 30
  · have := liB_ok (ck_l2 (i - 20) (by omega))
    rw [show i - 20 + 20 = i by omega] at this
    exact this
  by_cases c3 : i < 40
  · have := liB_ok (ck_l3 (i - 30) (by omega))
    rw [show i - 30 + 30 = i by omega] at this
    exact this
  by_cases c4 : i < 50
  · have := liB_ok (ck_l4 (i - 40) (by omega))
    rw [show i - 40 + 40 = i by omega] at this
    exact this
  have := liB_ok (ck_l5 (i - 50) (by omega))
  rw [show i - 50 + 50 = i by omega] at this
  exact this
def tkB (o : Nat) : Bool := fa (tks o).1 (Cond.exactly (stT (sti o)) "GripEstates$Token") && (fa (tks o).2.1 (Cond.eq (.field (stT (sti o)) "java/lang/Enum" "ordinal" "I") (.int (Int32.ofNat o))) && (fa (tks o).2.2.1 (Cond.eq (.field (stT (sti o)) "GripEstates$Token" "text" "Ljava/lang/String;") (liT (tli o))) && (fa (tks o).2.2.2.1 (Cond.eq (.field (stT (sti o)) "GripEstates$Token" "op" "I") (.int (opI o))) && fa (tks o).2.2.2.2 (Cond.eq (.elem (stT 1) (.int (Int32.ofNat o))) (stT (sti o))))))
set_option maxRecDepth 100000 in
theorem ck_t1 : ∀ o, o < 35 → tkB o = true := by decide +kernel
theorem ck_t2 : ∀ o, o < 35 → tli o < 59 ∧ lby (tli o) = wt o ∧ sti o < 41 := by decide +kernel
theorem ck_tk (o : Nat) (ho : o < 35) : (Cond.exactly (stT (sti o)) "GripEstates$Token" ∈ FL ∧ Cond.eq (.field (stT (sti o)) "java/lang/Enum" "ordinal" "I") (.int (Int32.ofNat o)) ∈ FL ∧ Cond.eq (.field (stT (sti o)) "GripEstates$Token" "text" "Ljava/lang/String;") (liT (tli o)) ∈ FL ∧ Cond.eq (.field (stT (sti o)) "GripEstates$Token" "op" "I") (.int (opI o)) ∈ FL ∧ Cond.eq (.elem (stT 1) (.int (Int32.ofNat o))) (stT (sti o)) ∈ FL) ∧ tli o < 59 ∧ lby (tli o) = wt o ∧ sti o < 41 := by
  have h := ck_t1 o ho
  simp only [tkB, Bool.and_eq_true] at h
  exact ⟨⟨fa_ok h.1, fa_ok h.2.1, fa_ok h.2.2.1, fa_ok h.2.2.2.1, fa_ok h.2.2.2.2⟩, ck_t2 o ho⟩
theorem ck_ll : ∀ i, i < 26 → lby i = wt (lio i) := by decide +kernel
theorem ck_lb : ∀ i, i < 59 → (lby i).length < 16 := by decide +kernel
def svB (i : Nat) : Bool := match (svs i).1 with
  | 0 => fa (svs i).2 (Cond.exactly (stT i) "GripEstates$Token")
  | 1 => fa (svs i).2 (Cond.isRef (stT i))
  | 2 => fa (svs i).2 (Cond.eq (stT i) (.int 1))
  | 3 => fa (svs i).2 (Cond.eq (stT i) (.int 0))
  | _ => fa (svs i).2 (Cond.eq (stT i) (.int 8))
set_option maxRecDepth 100000 in
theorem ck_s1 : ∀ i, i < 41 → svB i = true := by decide +kernel
theorem ck_sv (i : Nat) (hi : i < 41) : Cond.exactly (stT i) "GripEstates$Token" ∈ FL ∨ Cond.isRef (stT i) ∈ FL ∨ Cond.eq (stT i) (.int 1) ∈ FL ∨ Cond.eq (stT i) (.int 0) ∈ FL ∨ Cond.eq (stT i) (.int 8) ∈ FL := by
  have h := ck_s1 i hi
  unfold svB at h
  split at h
  · exact Or.inl (fa_ok h)
  · exact Or.inr (Or.inl (fa_ok h))
  · exact Or.inr (Or.inr (Or.inl (fa_ok h)))
  · exact Or.inr (Or.inr (Or.inr (Or.inl (fa_ok h))))
  · exact Or.inr (Or.inr (Or.inr (Or.inr (fa_ok h))))
set_option maxRecDepth 100000 in
theorem ck_sa : ∀ q ∈ sts, Cond.laysStatic q.1 q.2.1 q.2.2 ∈ lw_tbl := zip_ok (f := fun q => Cond.laysStatic q.1 q.2.1 q.2.2) (c := wc) (fun _ _ h => wc_ok h) sts [663, 668, 683, 699, 717, 719, 721, 724, 729, 740, 750, 761, 763, 775, 785, 791, 793, 795, 805, 812, 814, 824, 826, 828, 834, 941, 943, 950, 965, 967, 969, 987, 989, 991, 993, 995, 2339, 2340, 2341, 2342, 2343] (by decide +kernel) (by decide +kernel)
set_option maxRecDepth 100000 in
theorem ck_sb : ∀ q ∈ sts, Cond.initialized q.1 ∈ lw_tbl := zip_ok (f := fun q => Cond.initialized q.1) (c := wc) (fun _ _ h => wc_ok h) sts [147, 147, 148, 150, 151, 151, 151, 147, 147, 147, 147, 147, 147, 147, 147, 147, 147, 147, 147, 147, 147, 147, 147, 147, 147, 147, 147, 147, 147, 147, 147, 147, 147, 147, 147, 147, 147, 147, 147, 147, 147] (by decide +kernel) (by decide +kernel)
theorem ck_st (q : String × String × String) (h : q ∈ sts) : Cond.laysStatic q.1 q.2.1 q.2.2 ∈ lw_tbl ∧ Cond.initialized q.1 ∈ lw_tbl := ⟨ck_sa q h, ck_sb q h⟩
set_option maxRecDepth 100000 in
theorem ck_ls : ∀ q ∈ lits, Cond.stringRef q.1 q.2.1 q.2.2 ∈ lw_tbl := zip_ok (f := fun q => Cond.stringRef q.1 q.2.1 q.2.2) (c := wc) (fun _ _ h => wc_ok h) lits [1719, 1734, 1743, 1744, 1768, 1773, 1782, 1783, 1784, 1800, 1801, 1814, 1815, 1820, 1821, 1826, 1827, 1828, 1845, 1854, 1855, 1868, 1869, 1870, 1871, 1872, 2338, 2344, 2345, 2346, 2347, 2348, 2349, 2350, 2351, 2352, 2353, 2354, 2355, 2356, 2357, 2358, 2359, 2360, 2361, 2362, 2363, 2364, 2365, 2366, 2367, 2368, 2369, 2370, 2371, 2372, 2373, 2374, 2375] (by decide +kernel) (by decide +kernel)
set_option maxRecDepth 100000 in
theorem ck_in : ∀ q ∈ cls.map (fun q => (q.1, q.2.2)), Cond.instantiable q.1 q.2 ∈ lw_tbl := zip_ok (f := fun q => Cond.instantiable q.1 q.2) (c := wc) (fun _ _ h => wc_ok h) (cls.map (fun q => (q.1, q.2.2))) [294, 266, 322, 203, 227, 172, 192, 316, 256, 164, 1581] (by decide +kernel) (by decide +kernel)
set_option maxRecDepth 100000 in
theorem ck_n1 : ∀ q ∈ nests, Cond.methodLinkNest q.1 q.2.1 q.2.2.1 q.2.2.2 ∈ lw_tbl := zip_ok (f := fun q => Cond.methodLinkNest q.1 q.2.1 q.2.2.1 q.2.2.2) (c := wc) (fun _ _ h => wc_ok h) nests [173, 193, 204, 228, 323] (by decide +kernel) (by decide +kernel)
set_option maxRecDepth 100000 in
theorem ck_n2 : ∀ q ∈ casts, Cond.castable q.1 q.2 ∈ lw_tbl := zip_ok (f := fun q => Cond.castable q.1 q.2) (c := wc) (fun _ _ h => wc_ok h) casts [840, 905, 1011, 1033, 1123, 1233, 2314, 2315, 2316, 2317, 2318, 2319, 2320, 2321, 2322, 2323, 2324, 2325, 2326, 2327, 2328, 2329, 2330, 2331, 2332] (by decide +kernel) (by decide +kernel)
set_option maxRecDepth 100000 in
theorem ck_n3 : ∀ q ∈ decls, Cond.declares q ∈ lw_tbl := zip_ok (f := fun q => Cond.declares q) (c := wc) (fun _ _ h => wc_ok h) decls [841, 842, 843, 844, 845, 846] (by decide +kernel) (by decide +kernel)
set_option maxRecDepth 100000 in
theorem ck_n4 : ∀ q ∈ ncasts, Cond.not (.castable q.1 q.2) ∈ FL := zip_ok (f := fun q => Cond.not (.castable q.1 q.2)) (c := fa) (fun _ _ h => fa_ok h) ncasts [203, 204, 205, 206, 219, 220, 221, 222, 235, 236, 237, 238, 251, 252, 253, 254, 267, 268, 269, 270] (by decide +kernel) (by decide +kernel)
set_option maxRecDepth 100000 in
theorem ck_n5 : ∀ q ∈ aovers, Cond.arrayOver (.object q) ∈ lw_tbl := zip_ok (f := fun q => Cond.arrayOver (.object q)) (c := wc) (fun _ _ h => wc_ok h) aovers [225, 233] (by decide +kernel) (by decide +kernel)
theorem ck_nx : (∀ q ∈ nests, Cond.methodLinkNest q.1 q.2.1 q.2.2.1 q.2.2.2 ∈ lw_tbl) ∧ (∀ q ∈ casts, Cond.castable q.1 q.2 ∈ lw_tbl) ∧ (∀ q ∈ decls, Cond.declares q ∈ lw_tbl) ∧ (∀ q ∈ ncasts, Cond.not (.castable q.1 q.2) ∈ FL) ∧ (∀ q ∈ aovers, Cond.arrayOver (.object q) ∈ lw_tbl) := ⟨ck_n1, ck_n2, ck_n3, ck_n4, ck_n5⟩
theorem ck_zz : (Cond.laysStatic Bundle.tN "UNASSIGNED_STACK" Bundle.steD ∈ lw_tbl ∧ Cond.laysStatic Bundle.tN "SUPPRESSED_SENTINEL" Bundle.listD ∈ lw_tbl ∧ Cond.initialized Bundle.tN ∈ lw_tbl) ∧ Cond.isRef (.static Bundle.tN "UNASSIGNED_STACK" Bundle.steD) ∈ FL ∧ Cond.isRef (.static Bundle.tN "SUPPRESSED_SENTINEL" Bundle.listD) ∈ FL := ⟨⟨wc_ok (k := 865) (by decide +kernel), wc_ok (k := 867) (by decide +kernel), wc_ok (k := 152) (by decide +kernel)⟩, fa_ok (k := 125) (by decide +kernel), fa_ok (k := 126) (by decide +kernel)⟩
theorem ck_al : Cond.arrayOf (stT 1) (.object "GripEstates$Token") ∈ FL ∧ Cond.eq (.length (stT 1)) (.int (Int32.ofNat 35)) ∈ FL ∧ Cond.eq (stT 2) (.int 1) ∈ FL := ⟨fa_ok (k := 10) (by decide +kernel), fa_ok (k := 11) (by decide +kernel), fa_ok (k := 48) (by decide +kernel)⟩
theorem sts_len : sts.length = 41 := by decide +kernel
theorem lits_len : lits.length = 59 := by decide +kernel
section INI
variable {s : State} {A : Nat → Prop}
theorem OF_un {o n d : String} {v w : Value} {t : Nat} (h : va_OF o n d v t A s s.heap) (k : va_OF o n d w t A s s.heap) : v = w := by
  obtain ⟨a1, a2, a3, a4, a5, h1, h2, h3, h4, h5, h6⟩ := h
  obtain ⟨b1, b2, b3, b4, b5, k1, k2, k3, k4, k5, k6⟩ := k
  cases h1.symm.trans k1
  cases h3.symm.trans k3
  exact Option.some.inj (h5.symm.trans k5)
theorem O_dj {t : Nat} (h : va_O "GripEstates$Token" t A s s.heap) (k : va_O "java/lang/String" t A s s.heap) : False := by
  obtain ⟨c, h1, -, h3, -⟩ := h
  obtain ⟨c', k1, -, k3, -⟩ := k
  cases h1.symm.trans k1
  obtain ⟨kc, e1, e2⟩ := Vm.findClass_spec h3
  obtain ⟨kd, f1, f2⟩ := Vm.findClass_spec k3
  cases e1.symm.trans f1
  rw [e2] at f2
  exact absurd f2 (by decide)
theorem arr_ty {c : Cell} {t u : FieldType} (h : s.isArrayOf c t) (k : s.isArrayOf c u) : t = u := by
  obtain ⟨-, kc, h1, cm, h2⟩ := h
  obtain ⟨-, kd, k1, cn, k2⟩ := k
  cases h1.symm.trans k1
  rw [h2] at k2
  cases k2
  rfl
theorem T_ty {t N M : Nat} {f g : Nat → Value} {ty tz : FieldType} (h : va_T ty t N f A s s.heap) (k : va_T tz t M g A s s.heap) : ty = tz ∧ Int32.ofNat N = Int32.ofNat M := by
  obtain ⟨c, h1, h2, -, -, h5, -⟩ := h
  obtain ⟨d, k1, k2, -, -, k5, -⟩ := k
  cases h1.symm.trans k1
  exact ⟨arr_ty h2 k2, h5.symm.trans k5⟩
theorem ref_cat {v : Value} (h : v.isRef = true) : v.category = 1 := by cases v <;> first | rfl | cases h
theorem stT_of {i : Nat} {q : String × String × String} (e : sts[i]? = some q) : stT i = .static q.1 q.2.1 q.2.2 := by simp only [stT, e]
theorem liT_of {i : Nat} {q : String × Nat × String} (e : lits[i]? = some q) : liT i = .string q.1 q.2.1 := by simp only [liT, e]
end INI
set_option maxHeartbeats 4000000 in
theorem init_ok {p : Program} {s : State} {m : MethodId} {meth : Method} {c : Code} {b L : Nat} {xs : Nat → Int32} (l : Launch) (hL : L ≤ 3072) (C0 : lw_At p s m meth c b L xs) : Init l s b L xs := by
  obtain ⟨-, -, -, -, -, hts, hX, hbs, -, hgv⟩ := C0
  have fl : ∀ w ∈ FL, w.before #[Value.ref b] s = true := flat_of_before _ hgv
  have hA : ∀ a : Nat, a < s.heap.size → ¬ (fun q => s.heap.size ≤ q) a := fun a h z => absurd h (Nat.not_lt_of_le z)
  obtain ⟨zc, hzc⟩ := Classical.axiomOfChoice (show ∀ k : Nat, ∃ z : ClassId × (Nat → Nat), ∀ q, cls[k]? = some q → u_Kn s q.1 q.2.1 q.2.2 z.1 z.2 from fun k => by
    cases e : cls[k]? with
    | none => exact ⟨((0 : Nat), fun _ => 0), fun q h => nomatch h⟩
    | some q =>
      obtain ⟨cC, iS, h⟩ := u_known (N := q.2.2) (n := q.2.2) hts (fun w hw => (List.mem_filter.mp ((cls_ok e).1 w hw)).1) (hts _ (ck_in (q.1, q.2.2) (List.mem_map.mpr ⟨q, List.mem_of_getElem? e, rfl⟩)))
      exact ⟨(cC, iS), fun q' h' => by cases h'; exact h⟩)
  obtain ⟨zs, hzs⟩ := Classical.axiomOfChoice (show ∀ i : Nat, ∃ v : Value, i < 41 → (stT i).eval #[Value.ref b] s none [] s = some v ∧ v.category = 1 from fun i => by
    by_cases hi : i < 41
    · rcases ck_sv i hi with h | h | h | h | h
      · obtain ⟨a, _, _, _, q1, -⟩ := Cond.exactly_spec (fl _ h)
        exact ⟨.ref a, fun _ => ⟨q1, rfl⟩⟩
      · obtain ⟨v, q1, q2⟩ := Cond.isRef_spec (fl _ h)
        exact ⟨v, fun _ => ⟨q1, ref_cat q2⟩⟩
      · exact ⟨_, fun _ => ⟨va_eqt (fl _ h), rfl⟩⟩
      · exact ⟨_, fun _ => ⟨va_eqt (fl _ h), rfl⟩⟩
      · exact ⟨_, fun _ => ⟨va_eqt (fl _ h), rfl⟩⟩
    · exact ⟨un, fun h => absurd h hi⟩)
  obtain ⟨zl, hzl⟩ := Classical.axiomOfChoice (show ∀ i : Nat, ∃ q : Nat × Nat, i < 59 → (liT i).eval #[Value.ref b] s none [] s = some (.ref q.1) ∧ va_O "java/lang/String" q.1 (fun q => s.heap.size ≤ q) s s.heap ∧ va_OF "java/lang/String" "coder" "B" (.int 0) q.1 (fun q => s.heap.size ≤ q) s s.heap ∧ va_OF "java/lang/String" "value" "[B" (.ref q.2) q.1 (fun q => s.heap.size ≤ q) s s.heap ∧ va_T .byte q.2 (lby i).length (fun j => .int (nI ((lby i).getD j 0))) (fun q => s.heap.size ≤ q) s s.heap from fun i => by
    by_cases hi : i < 59
    · obtain ⟨⟨k1, k2, k3, k4⟩, k5⟩ := ck_li i hi
      obtain ⟨a, c, cA, kA, q1, q2, q3, q4, q5, q6, -⟩ := Cond.exactly_spec (fl _ k1)
      obtain ⟨t, ht, hT⟩ := va_Tof (f := fun j => .int (nI ((lby i).getD j 0))) (A := fun q => s.heap.size ≤ q) (Nat.lt_trans (ck_lb i hi) (by decide)) (fl _ k3) (va_eqt (fl _ k4)) (fun j hj => va_eqt (fl _ (k5 j hj))) hA
      exact ⟨(a, t), fun _ => ⟨q1, ⟨cA, q3, q5, by rw [q6]; exact q2, hA a (Array.getElem?_eq_some_iff.mp q3).1⟩, vk_OFof q1 (va_eqt (fl _ k2)) hA, vk_OFof q1 ht hA, hT⟩⟩
    · exact ⟨(0, 0), fun h => absurd h hi⟩)
  obtain ⟨tk, htk⟩ := Classical.axiomOfChoice (show ∀ o : Nat, ∃ t : Nat, o < 35 → zs (sti o) = .ref t ∧ va_O "GripEstates$Token" t (fun q => s.heap.size ≤ q) s s.heap from fun o => by
    by_cases ho : o < 35
    · obtain ⟨⟨k1, -⟩, -, -, k4⟩ := ck_tk o ho
      obtain ⟨a, c, cA, kA, q1, q2, q3, q4, q5, q6, -⟩ := Cond.exactly_spec (fl _ k1)
      exact ⟨a, fun _ => ⟨Option.some.inj ((hzs _ k4).1.symm.trans q1), cA, q3, q5, by rw [q6]; exact q2, hA a (Array.getElem?_eq_some_iff.mp q3).1⟩⟩
    · exact ⟨0, fun h => absurd h ho⟩)
  have hte : ∀ o, o < 35 → (stT (sti o)).eval #[Value.ref b] s none [] s = some (.ref (tk o)) := fun o ho => by rw [← (htk o ho).1]; exact (hzs _ (ck_tk o ho).2.2.2).1
  obtain ⟨al, hal, hTa⟩ := va_Tof (tm := stT 1) (ty := .object "GripEstates$Token") (N := 35) (f := fun o => .ref (tk o)) (A := fun q => s.heap.size ≤ q) (by decide) (fl _ ck_al.1) (va_eqt (fl _ ck_al.2.1)) (fun j hj => va_eqv (fl _ (ck_tk j hj).1.2.2.2.2) (hte j hj)) hA
  obtain ⟨zo, hzo⟩ := Classical.axiomOfChoice (show ∀ q : Nat × Nat, ∃ v : Value, (v ≠ un → ∀ r, ofs[q.1]? = some r → va_OF r.1 r.2.1 r.2.2 v q.2 (fun q => s.heap.size ≤ q) s s.heap) ∧ (∀ w r, ofs[q.1]? = some r → va_OF r.1 r.2.1 r.2.2 w q.2 (fun q => s.heap.size ≤ q) s s.heap → v = w) from fun q => by
    cases e : ofs[q.1]? with
    | none => exact ⟨un, fun h => absurd rfl h, fun w r h => nomatch h⟩
    | some r =>
      by_cases hv : ∃ v, va_OF r.1 r.2.1 r.2.2 v q.2 (fun q => s.heap.size ≤ q) s s.heap
      · obtain ⟨v, hv⟩ := hv
        exact ⟨v, fun _ r' h => by cases h; exact hv, fun w r' h hw => by cases h; exact OF_un hv hw⟩
      · exact ⟨un, fun h => absurd rfl h, fun w r' h hw => by cases h; exact absurd ⟨w, hw⟩ hv⟩)
  obtain ⟨zk, hzk⟩ := Classical.axiomOfChoice (show ∀ a : Nat, ∃ k : Nat, (k = 1 → va_O "GripEstates$Token" a (fun q => s.heap.size ≤ q) s s.heap) ∧ (k = 2 → va_O "java/lang/String" a (fun q => s.heap.size ≤ q) s s.heap) ∧ (va_O "GripEstates$Token" a (fun q => s.heap.size ≤ q) s s.heap → k = 1) ∧ (va_O "java/lang/String" a (fun q => s.heap.size ≤ q) s s.heap → k = 2) from fun a => by
    by_cases h1 : va_O "GripEstates$Token" a (fun q => s.heap.size ≤ q) s s.heap
    · exact ⟨1, fun _ => h1, fun h => absurd h (by decide), fun _ => rfl, fun h => (O_dj h1 h).elim⟩
    · by_cases h2 : va_O "java/lang/String" a (fun q => s.heap.size ≤ q) s s.heap
      · exact ⟨2, fun h => absurd h (by decide), fun _ => h2, fun h => absurd h h1, fun _ => rfl⟩
      · exact ⟨0, fun h => absurd h (by decide), fun h => absurd h (by decide), fun h => absurd h h1, fun h => absurd h h2⟩)
  obtain ⟨scr, x1, x2, x3, x4, x5⟩ := hX
  have db : ∀ i, i < 59 → b ≠ (zl i).2 := fun i hi e => by
    obtain ⟨c, h1, h2, -⟩ := (hzl i hi).2.2.2.2
    rw [← e, x1] at h1
    cases h1
    exact absurd (arr_ty x2 h2) (by decide)
  have da : al ≠ b := fun e => by
    obtain ⟨c, h1, h2, -⟩ := hTa
    rw [e, x1] at h1
    cases h1
    exact absurd (arr_ty x2 h2) (by decide)
  have dl : ∀ i, i < 59 → al ≠ (zl i).2 := fun i hi e => by
    have h := (hzl i hi).2.2.2.2
    rw [← e] at h
    exact absurd (T_ty hTa h).1 (by decide)
  have ll : ∀ i j, i < 59 → j < 59 → (zl i).2 = (zl j).2 → (lby i).length = (lby j).length := fun i j hi hj e => by
    have h := (hzl j hj).2.2.2.2
    rw [← e] at h
    have := (T_ty (hzl i hi).2.2.2.2 h).2
    exact (nI_eq (Nat.lt_trans (ck_lb i hi) (by decide)) (Nat.lt_trans (ck_lb j hj) (by decide))).mp this
  obtain ⟨zh, hzh⟩ := Classical.axiomOfChoice (show ∀ a : Nat, ∃ q : Nat × Nat, (a = b → q = (101, L)) ∧ (a = al → q = (105, 35)) ∧ (∀ i, i < 59 → a = (zl i).2 → q = (103, (lby i).length)) ∧ (q = (0, 0) ∨ a = b ∨ a = al ∨ ∃ i, i < 59 ∧ a = (zl i).2) from fun a => by
    by_cases h1 : a = b
    · exact ⟨(101, L), fun _ => rfl, fun h => absurd (h.symm.trans h1) da, fun i hi h => absurd (h1.symm.trans h) (db i hi), Or.inr (Or.inl h1)⟩
    · by_cases h2 : a = al
      · exact ⟨(105, 35), fun h => absurd h h1, fun _ => rfl, fun i hi h => absurd (h2.symm.trans h) (dl i hi), Or.inr (Or.inr (Or.inl h2))⟩
      · by_cases h3 : ∃ i, i < 59 ∧ a = (zl i).2
        · obtain ⟨i, hi, e⟩ := h3
          exact ⟨(103, (lby i).length), fun h => absurd h h1, fun h => absurd h h2, fun j hj h => by rw [ll i j hi hj (e.symm.trans h)], Or.inr (Or.inr (Or.inr ⟨i, hi, e⟩))⟩
        · exact ⟨(0, 0), fun h => absurd h h1, fun h => absurd h h2, fun j hj h => absurd ⟨j, hj, h⟩ h3, Or.inl rfl⟩)
  have ct : ∀ (a j : Nat) (cell : Cell) (v : Value), s.heap[a]? = some cell → cell.slots[j]? = some v → ((s.heap[a]?).bind (fun c => c.slots[j]?)).getD un = v := fun a j cell v h1 h2 => by rw [h1]; show (cell.slots[j]?).getD un = v; rw [h2]; rfl
  let G : Gx := (l, (fun k => (zc k).1, fun k => (zc k).2), s.heap.size, zs, fun i a => zo (i, a), zk, fun i => (zl i).1)
  let h0 : Hp := (zh, fun a j => ((s.heap[a]?).bind (fun c => c.slots[j]?)).getD un, s.heap.size)
  have StA : ∀ i, i < 59 → StrAt G h0 (zl i).1 (lby i) := fun i hi => by
    obtain ⟨e1, e2, e3, e4, e5⟩ := hzl i hi
    refine ⟨(hzk _).2.2.2 e2, (hzo (3, (zl i).1)).2 _ _ rfl e3, (zl i).2, (hzo (2, (zl i).1)).2 _ _ rfl e4, ?_, (hzh _).2.2.1 i hi rfl, fun j c hj => ?_⟩
    · obtain ⟨cell, h1, -⟩ := e5
      exact (Array.getElem?_eq_some_iff.mp h1).1
    · obtain ⟨cell, h1, -, -, -, -, h6, -⟩ := e5
      have hl := (List.getElem?_eq_some_iff.mp hj).1
      refine ct _ _ cell _ h1 ((h6 j hl).trans ?_)
      show some (Value.int (nI ((lby i).getD j 0))) = some (Value.int (nI c))
      rw [show (lby i).getD j 0 = c by rw [List.getD_eq_getElem?_getD, hj]; rfl]
  refine ⟨G, tk, h0, rfl, rfl, ⟨Nat.le_refl _, fun k q hk => hzc k q hk, fun i q hi => ?_, fun i a q hi hn => (hzo (i, a)).1 hn q hi, fun i a q hi hn => ?_, fun i q hi => ?_, ?_⟩, ⟨rfl, Nat.le_refl _, fun a => ?_⟩, ⟨fun o ho => ?_, fun o q ho hq e => ?_, ⟨al, ?_, ?_, (hzh al).2.1 rfl, fun o ho => ?_⟩, ⟨1, ?_, by decide⟩, (hzs 3 (by decide)).2⟩, fun i hi => ?_, (hzh b).1 rfl, fun j hj => ct _ _ scr _ x1 (x5 j hj)⟩
  · have hi' : i < 41 := by rw [← sts_len]; exact (List.getElem?_eq_some_iff.mp hi).1
    have w := ck_st q (List.mem_of_getElem? hi)
    have ev := (hzs i hi').1
    rw [stT_of hi] at ev
    exact va_Zof (hts _ w.1) (hts _ w.2) ev hA
  · match i, hi with
    | 0, hi => cases hi; exact (hzk a).1 hn
    | 1, hi => cases hi; exact (hzk a).2.1 hn
    | i + 2, hi => exact nomatch hi
  · have hi' : i < 59 := by rw [← lits_len]; exact (List.getElem?_eq_some_iff.mp hi).1
    have ev := (hzl i hi').1
    rw [liT_of hi] at ev
    exact vk_R.of (hts _ (ck_ls q (List.mem_of_getElem? hi))) ev
  · obtain ⟨n1, n2, n3, n4, n5⟩ := ck_nx
    obtain ⟨⟨z1, z2, z3⟩, z4, z5⟩ := ck_zz
    exact ⟨fun q hq => va_Nw.of rfl (hts _ (n1 q hq)), fun q hq => va_Nw.of rfl (hts _ (n2 q hq)), fun q hq => va_Nw.of rfl (hts _ (n3 q hq)), fun q hq => va_Nc.of (fl _ (n4 q hq)), fun q hq => va_AO.of (hts _ (n5 q hq)), vx_Zqof (hts _ z1) (hts _ z3) (fl _ z4) hA, vx_Zqof (hts _ z2) (hts _ z3) (fl _ z5) hA⟩
  · show cok G s s.heap a (zh a) _
    rcases (hzh a).2.2.2 with e | rfl | rfl | ⟨i, hi, rfl⟩
    · rw [e]
      exact ⟨fun h => absurd h (by decide), fun h => absurd h (by decide)⟩
    · rw [(hzh a).1 rfl]
      exact ⟨fun _ h => absurd h (show ¬ 101 ≤ 100 by decide), fun _ => ⟨scr, x1, x2, x3, szk.of x4, Nat.lt_of_le_of_lt hL (by decide), fun j hj => (x5 j hj).trans (congrArg some (ct _ _ scr _ x1 (x5 j hj)).symm), fun h => absurd hbs (Nat.not_lt_of_le h)⟩⟩
    · rw [(hzh a).2.1 rfl]
      obtain ⟨cell, h1, h2, h3, h4, h5, h6, h7⟩ := hTa
      exact ⟨fun _ h => absurd h (by decide), fun _ => ⟨cell, h1, h2, h3, ⟨h4, h5, fun h => h.elim (fun z => absurd z h7) (fun z => absurd z (by decide))⟩, by decide, fun j hj => (h6 j hj).trans (congrArg some (ct _ _ cell _ h1 (h6 j hj)).symm), fun h => absurd h h7⟩⟩
    · rw [(hzh _).2.2.1 i hi rfl]
      obtain ⟨cell, h1, h2, h3, h4, h5, h6, h7⟩ := (hzl i hi).2.2.2.2
      exact ⟨fun _ h => absurd h (show ¬ 103 ≤ 100 by decide), fun _ => ⟨cell, h1, h2, h3, ⟨h4, h5, fun h => h.elim (fun z => absurd z h7) (fun z => absurd z (show ¬ 103 = 101 by decide))⟩, Nat.lt_trans (ck_lb i hi) (by decide), fun j hj => (h6 j hj).trans (congrArg some (ct _ _ cell _ h1 (h6 j hj)).symm), fun h => absurd h h7⟩⟩
  · obtain ⟨⟨k1, k2, k3, k4, k5⟩, j1, j2, j3⟩ := ck_tk o ho
    have St := StA (tli o) j1
    rw [j2] at St
    refine ⟨(htk o ho).1, (hzk _).2.2.1 (htk o ho).2, (hzo (1, tk o)).2 _ _ rfl (vk_OFof (hte o ho) (va_eqt (fl _ k4)) hA), (zl (tli o)).1, (hzo (0, tk o)).2 _ _ rfl (vk_OFof (hte o ho) (va_eqv (fl _ k3) (hzl _ j1).1) hA), St⟩
  · have f1 := vk_OFof (hte o ho) (va_eqt (fl _ (ck_tk o ho).1.2.1)) hA
    have f2 := vk_OFof (hte q hq) (va_eqt (fl _ (ck_tk q hq).1.2.1)) hA
    rw [← e] at f2
    have e2 := OF_un f1 f2
    exact (nI_eq (show o < 2 ^ 31 by omega) (show q < 2 ^ 31 by omega)).mp (Value.int.inj e2)
  · exact Option.some.inj ((hzs 1 (by decide)).1.symm.trans hal)
  · obtain ⟨cell, h1, -⟩ := hTa
    exact (Array.getElem?_eq_some_iff.mp h1).1
  · obtain ⟨cell, h1, -, -, -, -, h6, -⟩ := hTa
    exact ct _ _ cell _ h1 (h6 o ho)
  · exact Option.some.inj ((hzs 2 (by decide)).1.symm.trans (va_eqt (fl _ ck_al.2.2)))
  · have := StA i (by omega)
    rw [ck_ll i hi] at this
    exact this
