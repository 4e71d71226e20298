/-! ===== the law's helpers (printed by wip/whole/hgen.py) ===== -/
/-- what a helper ends with: 0, the answer in out; or the number of the class thrown -/
def hQ (Q : Res → Hp → Prop) (out : Nat) (cs : List (String × Int32)) : Res → Hp → Prop := fun o h'' => (∃ y h', Q (.inl (some (.int y))) h' ∧ o = .inl (some (.int 0)) ∧ h'' = hset h' out 0 (.long y.toInt64)) ∨ (∃ E k h', (E, k) ∈ cs ∧ Q (.inr E) h' ∧ o = .inl (some (.int k)) ∧ h'' = h')
theorem cln0 : (0 : Int32).toNatClampNeg = 0 := by decide
theorem vp01 : vp_in (0 : Int32) 1 := vp_in_nI (n := 0) (N := 1) (by decide) (by decide)
theorem cl_13 : Cond.classLink "GripEstatesLaw" 13 "java/lang/IllegalArgumentException" ∈ lw_good := wd_ok (k := 627) (by decide +kernel)
theorem cl_15 : Cond.classLink "GripEstatesLaw" 15 "java/lang/UnsupportedOperationException" ∈ lw_good := wd_ok (k := 628) (by decide +kernel)
theorem cl_24 : Cond.classLink "GripEstatesLaw" 24 "java/lang/IndexOutOfBoundsException" ∈ lw_good := wd_ok (k := 1017) (by decide +kernel)
theorem cl_26 : Cond.classLink "GripEstatesLaw" 26 "java/util/NoSuchElementException" ∈ lw_good := wd_ok (k := 1018) (by decide +kernel)
theorem cl_41 : Cond.classLink "GripEstatesLaw" 41 "java/lang/IllegalStateException" ∈ lw_good := wd_ok (k := 1219) (by decide +kernel)
section HLP
variable {G : Gx} {h : Hp} {x out : Nat} {Q : Res → Hp → Prop}
def m_Lw_valley : Mr := (⟨"GripEstatesLaw", "valley", "(LGripEstates;[J)I"⟩, method_3_code, 3, (some FieldType.int), 2, 12, 10)
def hh_Lw_valley : Hd := [(0, 8, 11, 13), (0, 8, 14, 15)]
def cs_Lw_valley : List (String × Int32) := [("java/lang/IllegalArgumentException", 1), ("java/lang/UnsupportedOperationException", 2)]
theorem h_Lw_valley (hM : EvM G m_Gr_valley (.ref x :: []) h Q) (hx : (h.1 x).1 = 10) (ho : G.n0 ≤ out) (hv : ∀ v h', Q (.inl v) h' → h'.1 out = (104, 1) ∧ ∃ y, v = some (.int y)) (hE : ∀ E h', Q (.inr E) h' → E = "java/lang/IllegalArgumentException" ∨ E = "java/lang/UnsupportedOperationException") : EvMH G m_Lw_valley hh_Lw_valley [.ref x, .ref out] h (hQ Q out cs_Lw_valley) := by
  refine EvMH.of (by decide) (fun w hw => by simp only [List.mem_cons, List.not_mem_nil, or_false] at hw; rcases hw with rfl | rfl <;> rfl) (by show 2 ≤ 3; decide) ?_
  show EvH G m_Lw_valley hh_Lw_valley 0 [.ref x, .ref out, un] [] h 0 0 _
  refine eh_aloadn (i := 1) (j := 1) rfl (by decide +kernel) rfl ?_
  refine eh_iconst (n := 0) (v := 0) (by decide +kernel) rfl ?_
  refine eh_aloadn (i := 0) (j := 0) rfl (by decide +kernel) rfl ?_
  show EvH G m_Lw_valley hh_Lw_valley 3 [.ref x, .ref out, un] (([] : List Value).reverse ++ .ref x :: [.int 0, .ref out]) h 0 0 _
  refine eh_callV (q := m_Gr_valley) (idx := 7) hM (wd_ok (k := 632) (by decide +kernel)) (wd_ok (k := 629) (by decide +kernel)) (wd_ok (k := 134) (by decide +kernel)) (wd_ok (k := 630) (by decide +kernel)) (wd_ok (k := 631) (by decide +kernel)) (by show plainB _ 0 = true; decide +kernel) (by decide) (by decide) (Or.inl ⟨9, 13, TX11, rfl, hx⟩) (by show 2 ≤ 8; decide) (by decide +kernel) (by decide) (by decide) (fun v h' z => ?_) (fun E h' z => ?_)
  · obtain ⟨so, y, rfl⟩ := hv v h' z
    show EvH G m_Lw_valley hh_Lw_valley 6 [.ref x, .ref out, un] (.int y :: .int 0 :: .ref out :: []) h' _ _ _
    refine eh_i2l (by decide +kernel) ?_
    refine eh_last ho so vp01 (by decide +kernel) ?_
    rw [cln0]
    refine eh_goto (off := 9) (tgt := 17) (by decide +kernel) rfl ?_
    refine eh_iconst (n := 0) (v := 0) (by decide +kernel) rfl ?_
    exact eh_iret (ty := .int) rfl rfl (by decide +kernel) (Or.inl ⟨_, _, z, rfl, rfl⟩)
  · obtain rfl | rfl := hE E h' z
    · refine ⟨11, ⟨[], ⟨0, 8, 11, 13⟩, [⟨0, 8, 14, 15⟩], "java/lang/IllegalArgumentException", rfl, ?_, by decide, by decide, rfl, cl_13, by decide +kernel⟩, fun a => ?_⟩
      · exact fun y hy => absurd hy List.not_mem_nil
      · refine eh_astoren (i := 2) (j := 2) rfl (by decide +kernel) (by decide) ?_
        refine eh_iconst (n := 1) (v := 1) (by decide +kernel) rfl ?_
        exact eh_iret (ty := .int) rfl rfl (by decide +kernel) (Or.inr ⟨_, 1, _, by decide, z, rfl, rfl⟩)
    · refine ⟨14, ⟨[⟨0, 8, 11, 13⟩], ⟨0, 8, 14, 15⟩, [], "java/lang/UnsupportedOperationException", rfl, ?_, by decide, by decide, rfl, cl_15, by decide +kernel⟩, fun a => ?_⟩
      · intro y hy
        simp only [List.mem_cons, List.not_mem_nil, or_false] at hy
        subst hy
        exact ⟨by decide, _, cl_13, by decide +kernel⟩
      · refine eh_astoren (i := 2) (j := 2) rfl (by decide +kernel) (by decide) ?_
        refine eh_iconst (n := 2) (v := 2) (by decide +kernel) rfl ?_
        exact eh_iret (ty := .int) rfl rfl (by decide +kernel) (Or.inr ⟨_, 2, _, by decide, z, rfl, rfl⟩)
def m_Lw_law : Mr := (⟨"GripEstatesLaw", "law", "(LGripEstates;[J)I"⟩, method_4_code, 3, (some FieldType.int), 6, 847, 44)
def hh_Lw_law : Hd := [(0, 8, 11, 13)]
def cs_Lw_law : List (String × Int32) := [("java/lang/IllegalArgumentException", 1)]
theorem h_Lw_law (hM : EvM G m_Gr_law (.ref x :: []) h Q) (hx : (h.1 x).1 = 10) (ho : G.n0 ≤ out) (hv : ∀ v h', Q (.inl v) h' → h'.1 out = (104, 1) ∧ ∃ y, v = some (.int y)) (hE : ∀ E h', Q (.inr E) h' → E = "java/lang/IllegalArgumentException") : EvMH G m_Lw_law hh_Lw_law [.ref x, .ref out] h (hQ Q out cs_Lw_law) := by
  refine EvMH.of (by decide) (fun w hw => by simp only [List.mem_cons, List.not_mem_nil, or_false] at hw; rcases hw with rfl | rfl <;> rfl) (by show 2 ≤ 3; decide) ?_
  show EvH G m_Lw_law hh_Lw_law 0 [.ref x, .ref out, un] [] h 0 0 _
  refine eh_aloadn (i := 1) (j := 1) rfl (by decide +kernel) rfl ?_
  refine eh_iconst (n := 0) (v := 0) (by decide +kernel) rfl ?_
  refine eh_aloadn (i := 0) (j := 0) rfl (by decide +kernel) rfl ?_
  show EvH G m_Lw_law hh_Lw_law 3 [.ref x, .ref out, un] (([] : List Value).reverse ++ .ref x :: [.int 0, .ref out]) h 0 0 _
  refine eh_callV (q := m_Gr_law) (idx := 17) hM (wd_ok (k := 924) (by decide +kernel)) (wd_ok (k := 921) (by decide +kernel)) (wd_ok (k := 134) (by decide +kernel)) (wd_ok (k := 922) (by decide +kernel)) (wd_ok (k := 923) (by decide +kernel)) (by show plainB _ 0 = true; decide +kernel) (by decide) (by decide) (Or.inl ⟨9, 13, TX11, rfl, hx⟩) (by show 2 ≤ 8; decide) (by decide +kernel) (by decide) (by decide) (fun v h' z => ?_) (fun E h' z => ?_)
  · obtain ⟨so, y, rfl⟩ := hv v h' z
    show EvH G m_Lw_law hh_Lw_law 6 [.ref x, .ref out, un] (.int y :: .int 0 :: .ref out :: []) h' _ _ _
    refine eh_i2l (by decide +kernel) ?_
    refine eh_last ho so vp01 (by decide +kernel) ?_
    rw [cln0]
    refine eh_goto (off := 6) (tgt := 14) (by decide +kernel) rfl ?_
    refine eh_iconst (n := 0) (v := 0) (by decide +kernel) rfl ?_
    exact eh_iret (ty := .int) rfl rfl (by decide +kernel) (Or.inl ⟨_, _, z, rfl, rfl⟩)
  · obtain rfl := hE E h' z
    refine ⟨11, ⟨[], ⟨0, 8, 11, 13⟩, [], "java/lang/IllegalArgumentException", rfl, ?_, by decide, by decide, rfl, cl_13, by decide +kernel⟩, fun a => ?_⟩
    · exact fun y hy => absurd hy List.not_mem_nil
    · refine eh_astoren (i := 2) (j := 2) rfl (by decide +kernel) (by decide) ?_
      refine eh_iconst (n := 1) (v := 1) (by decide +kernel) rfl ?_
      exact eh_iret (ty := .int) rfl rfl (by decide +kernel) (Or.inr ⟨_, 1, _, by decide, z, rfl, rfl⟩)
def m_Lw_person : Mr := (⟨"GripEstatesLaw", "person", "(LGripEstates;II[J)I"⟩, method_5_code, 5, (some FieldType.int), 2, 12, 8)
def hh_Lw_person : Hd := [(0, 10, 13, 24), (0, 10, 17, 26)]
def cs_Lw_person : List (String × Int32) := [("java/lang/IndexOutOfBoundsException", 1), ("java/util/NoSuchElementException", 2)]
theorem h_Lw_person {p0 p1 : Int32} (hM : EvM G m_Gr_person (.ref x :: [.int p0, .int p1]) h Q) (hx : (h.1 x).1 = 10) (ho : G.n0 ≤ out) (hv : ∀ v h', Q (.inl v) h' → h'.1 out = (104, 1) ∧ ∃ y, v = some (.int y)) (hE : ∀ E h', Q (.inr E) h' → E = "java/lang/IndexOutOfBoundsException" ∨ E = "java/util/NoSuchElementException") : EvMH G m_Lw_person hh_Lw_person [.ref x, .int p0, .int p1, .ref out] h (hQ Q out cs_Lw_person) := by
  refine EvMH.of (by decide) (fun w hw => by simp only [List.mem_cons, List.not_mem_nil, or_false] at hw; rcases hw with rfl | rfl | rfl | rfl <;> rfl) (by show 4 ≤ 5; decide) ?_
  show EvH G m_Lw_person hh_Lw_person 0 [.ref x, .int p0, .int p1, .ref out, un] [] h 0 0 _
  refine eh_aloadn (i := 3) (j := 3) rfl (by decide +kernel) rfl ?_
  refine eh_iconst (n := 0) (v := 0) (by decide +kernel) rfl ?_
  refine eh_aloadn (i := 0) (j := 0) rfl (by decide +kernel) rfl ?_
  refine eh_iloadn (i := 1) (j := 1) rfl (by decide +kernel) rfl ?_
  refine eh_iloadn (i := 2) (j := 2) rfl (by decide +kernel) rfl ?_
  show EvH G m_Lw_person hh_Lw_person 5 [.ref x, .int p0, .int p1, .ref out, un] (([.int p0, .int p1] : List Value).reverse ++ .ref x :: [.int 0, .ref out]) h 0 0 _
  refine eh_callV (q := m_Gr_person) (idx := 20) hM (wd_ok (k := 1022) (by decide +kernel)) (wd_ok (k := 1019) (by decide +kernel)) (wd_ok (k := 134) (by decide +kernel)) (wd_ok (k := 1020) (by decide +kernel)) (wd_ok (k := 1021) (by decide +kernel)) (by show plainB _ 2 = true; decide +kernel) (by decide) (by decide) (Or.inl ⟨9, 13, TX11, rfl, hx⟩) (by show 2 ≤ 8; decide) (by decide +kernel) (by decide) (by decide) (fun v h' z => ?_) (fun E h' z => ?_)
  · obtain ⟨so, y, rfl⟩ := hv v h' z
    show EvH G m_Lw_person hh_Lw_person 8 [.ref x, .int p0, .int p1, .ref out, un] (.int y :: .int 0 :: .ref out :: []) h' _ _ _
    refine eh_i2l (by decide +kernel) ?_
    refine eh_last ho so vp01 (by decide +kernel) ?_
    rw [cln0]
    refine eh_goto (off := 11) (tgt := 21) (by decide +kernel) rfl ?_
    refine eh_iconst (n := 0) (v := 0) (by decide +kernel) rfl ?_
    exact eh_iret (ty := .int) rfl rfl (by decide +kernel) (Or.inl ⟨_, _, z, rfl, rfl⟩)
  · obtain rfl | rfl := hE E h' z
    · refine ⟨13, ⟨[], ⟨0, 10, 13, 24⟩, [⟨0, 10, 17, 26⟩], "java/lang/IndexOutOfBoundsException", rfl, ?_, by decide, by decide, rfl, cl_24, by decide +kernel⟩, fun a => ?_⟩
      · exact fun y hy => absurd hy List.not_mem_nil
      · refine eh_astore (i := 4) (by decide +kernel) (by decide) ?_
        refine eh_iconst (n := 1) (v := 1) (by decide +kernel) rfl ?_
        exact eh_iret (ty := .int) rfl rfl (by decide +kernel) (Or.inr ⟨_, 1, _, by decide, z, rfl, rfl⟩)
    · refine ⟨17, ⟨[⟨0, 10, 13, 24⟩], ⟨0, 10, 17, 26⟩, [], "java/util/NoSuchElementException", rfl, ?_, by decide, by decide, rfl, cl_26, by decide +kernel⟩, fun a => ?_⟩
      · intro y hy
        simp only [List.mem_cons, List.not_mem_nil, or_false] at hy
        subst hy
        exact ⟨by decide, _, cl_24, by decide +kernel⟩
      · refine eh_astore (i := 4) (by decide +kernel) (by decide) ?_
        refine eh_iconst (n := 2) (v := 2) (by decide +kernel) rfl ?_
        exact eh_iret (ty := .int) rfl rfl (by decide +kernel) (Or.inr ⟨_, 2, _, by decide, z, rfl, rfl⟩)
def m_Lw_thing : Mr := (⟨"GripEstatesLaw", "thing", "(LGripEstates;II[J)I"⟩, method_6_code, 5, (some FieldType.int), 2, 12, 8)
def hh_Lw_thing : Hd := [(0, 10, 13, 24), (0, 10, 17, 26)]
def cs_Lw_thing : List (String × Int32) := [("java/lang/IndexOutOfBoundsException", 1), ("java/util/NoSuchElementException", 2)]
theorem h_Lw_thing {p0 p1 : Int32} (hM : EvM G m_Gr_thing (.ref x :: [.int p0, .int p1]) h Q) (hx : (h.1 x).1 = 10) (ho : G.n0 ≤ out) (hv : ∀ v h', Q (.inl v) h' → h'.1 out = (104, 1) ∧ ∃ y, v = some (.int y)) (hE : ∀ E h', Q (.inr E) h' → E = "java/lang/IndexOutOfBoundsException" ∨ E = "java/util/NoSuchElementException") : EvMH G m_Lw_thing hh_Lw_thing [.ref x, .int p0, .int p1, .ref out] h (hQ Q out cs_Lw_thing) := by
  refine EvMH.of (by decide) (fun w hw => by simp only [List.mem_cons, List.not_mem_nil, or_false] at hw; rcases hw with rfl | rfl | rfl | rfl <;> rfl) (by show 4 ≤ 5; decide) ?_
  show EvH G m_Lw_thing hh_Lw_thing 0 [.ref x, .int p0, .int p1, .ref out, un] [] h 0 0 _
  refine eh_aloadn (i := 3) (j := 3) rfl (by decide +kernel) rfl ?_
  refine eh_iconst (n := 0) (v := 0) (by decide +kernel) rfl ?_
  refine eh_aloadn (i := 0) (j := 0) rfl (by decide +kernel) rfl ?_
  refine eh_iloadn (i := 1) (j := 1) rfl (by decide +kernel) rfl ?_
  refine eh_iloadn (i := 2) (j := 2) rfl (by decide +kernel) rfl ?_
  show EvH G m_Lw_thing hh_Lw_thing 5 [.ref x, .int p0, .int p1, .ref out, un] (([.int p0, .int p1] : List Value).reverse ++ .ref x :: [.int 0, .ref out]) h 0 0 _
  refine eh_callV (q := m_Gr_thing) (idx := 28) hM (wd_ok (k := 1142) (by decide +kernel)) (wd_ok (k := 1139) (by decide +kernel)) (wd_ok (k := 134) (by decide +kernel)) (wd_ok (k := 1140) (by decide +kernel)) (wd_ok (k := 1141) (by decide +kernel)) (by show plainB _ 2 = true; decide +kernel) (by decide) (by decide) (Or.inl ⟨9, 13, TX11, rfl, hx⟩) (by show 2 ≤ 8; decide) (by decide +kernel) (by decide) (by decide) (fun v h' z => ?_) (fun E h' z => ?_)
  · obtain ⟨so, y, rfl⟩ := hv v h' z
    show EvH G m_Lw_thing hh_Lw_thing 8 [.ref x, .int p0, .int p1, .ref out, un] (.int y :: .int 0 :: .ref out :: []) h' _ _ _
    refine eh_i2l (by decide +kernel) ?_
    refine eh_last ho so vp01 (by decide +kernel) ?_
    rw [cln0]
    refine eh_goto (off := 11) (tgt := 21) (by decide +kernel) rfl ?_
    refine eh_iconst (n := 0) (v := 0) (by decide +kernel) rfl ?_
    exact eh_iret (ty := .int) rfl rfl (by decide +kernel) (Or.inl ⟨_, _, z, rfl, rfl⟩)
  · obtain rfl | rfl := hE E h' z
    · refine ⟨13, ⟨[], ⟨0, 10, 13, 24⟩, [⟨0, 10, 17, 26⟩], "java/lang/IndexOutOfBoundsException", rfl, ?_, by decide, by decide, rfl, cl_24, by decide +kernel⟩, fun a => ?_⟩
      · exact fun y hy => absurd hy List.not_mem_nil
      · refine eh_astore (i := 4) (by decide +kernel) (by decide) ?_
        refine eh_iconst (n := 1) (v := 1) (by decide +kernel) rfl ?_
        exact eh_iret (ty := .int) rfl rfl (by decide +kernel) (Or.inr ⟨_, 1, _, by decide, z, rfl, rfl⟩)
    · refine ⟨17, ⟨[⟨0, 10, 13, 24⟩], ⟨0, 10, 17, 26⟩, [], "java/util/NoSuchElementException", rfl, ?_, by decide, by decide, rfl, cl_26, by decide +kernel⟩, fun a => ?_⟩
      · intro y hy
        simp only [List.mem_cons, List.not_mem_nil, or_false] at hy
        subst hy
        exact ⟨by decide, _, cl_24, by decide +kernel⟩
      · refine eh_astore (i := 4) (by decide +kernel) (by decide) ?_
        refine eh_iconst (n := 2) (v := 2) (by decide +kernel) rfl ?_
        exact eh_iret (ty := .int) rfl rfl (by decide +kernel) (Or.inr ⟨_, 2, _, by decide, z, rfl, rfl⟩)
def m_Lw_shuts : Mr := (⟨"GripEstatesLaw", "shuts", "(LGripEstates;II[J)I"⟩, method_7_code, 5, (some FieldType.int), 2, 12, 8)
def hh_Lw_shuts : Hd := [(0, 10, 13, 24)]
def cs_Lw_shuts : List (String × Int32) := [("java/lang/IndexOutOfBoundsException", 1)]
theorem h_Lw_shuts {p0 p1 : Int32} (hM : EvM G m_Gr_shuts (.ref x :: [.int p0, .int p1]) h Q) (hx : (h.1 x).1 = 10) (ho : G.n0 ≤ out) (hv : ∀ v h', Q (.inl v) h' → h'.1 out = (104, 1) ∧ ∃ y, v = some (.int y)) (hE : ∀ E h', Q (.inr E) h' → E = "java/lang/IndexOutOfBoundsException") : EvMH G m_Lw_shuts hh_Lw_shuts [.ref x, .int p0, .int p1, .ref out] h (hQ Q out cs_Lw_shuts) := by
  refine EvMH.of (by decide) (fun w hw => by simp only [List.mem_cons, List.not_mem_nil, or_false] at hw; rcases hw with rfl | rfl | rfl | rfl <;> rfl) (by show 4 ≤ 5; decide) ?_
  show EvH G m_Lw_shuts hh_Lw_shuts 0 [.ref x, .int p0, .int p1, .ref out, un] [] h 0 0 _
  refine eh_aloadn (i := 3) (j := 3) rfl (by decide +kernel) rfl ?_
  refine eh_iconst (n := 0) (v := 0) (by decide +kernel) rfl ?_
  refine eh_aloadn (i := 0) (j := 0) rfl (by decide +kernel) rfl ?_
  refine eh_iloadn (i := 1) (j := 1) rfl (by decide +kernel) rfl ?_
  refine eh_iloadn (i := 2) (j := 2) rfl (by decide +kernel) rfl ?_
  show EvH G m_Lw_shuts hh_Lw_shuts 5 [.ref x, .int p0, .int p1, .ref out, un] (([.int p0, .int p1] : List Value).reverse ++ .ref x :: [.int 0, .ref out]) h 0 0 _
  refine eh_callV (q := m_Gr_shuts) (idx := 31) hM (wd_ok (k := 1157) (by decide +kernel)) (wd_ok (k := 1154) (by decide +kernel)) (wd_ok (k := 134) (by decide +kernel)) (wd_ok (k := 1155) (by decide +kernel)) (wd_ok (k := 1156) (by decide +kernel)) (by show plainB _ 2 = true; decide +kernel) (by decide) (by decide) (Or.inl ⟨9, 13, TX11, rfl, hx⟩) (by show 2 ≤ 8; decide) (by decide +kernel) (by decide) (by decide) (fun v h' z => ?_) (fun E h' z => ?_)
  · obtain ⟨so, y, rfl⟩ := hv v h' z
    show EvH G m_Lw_shuts hh_Lw_shuts 8 [.ref x, .int p0, .int p1, .ref out, un] (.int y :: .int 0 :: .ref out :: []) h' _ _ _
    refine eh_i2l (by decide +kernel) ?_
    refine eh_last ho so vp01 (by decide +kernel) ?_
    rw [cln0]
    refine eh_goto (off := 7) (tgt := 17) (by decide +kernel) rfl ?_
    refine eh_iconst (n := 0) (v := 0) (by decide +kernel) rfl ?_
    exact eh_iret (ty := .int) rfl rfl (by decide +kernel) (Or.inl ⟨_, _, z, rfl, rfl⟩)
  · obtain rfl := hE E h' z
    refine ⟨13, ⟨[], ⟨0, 10, 13, 24⟩, [], "java/lang/IndexOutOfBoundsException", rfl, ?_, by decide, by decide, rfl, cl_24, by decide +kernel⟩, fun a => ?_⟩
    · exact fun y hy => absurd hy List.not_mem_nil
    · refine eh_astore (i := 4) (by decide +kernel) (by decide) ?_
      refine eh_iconst (n := 1) (v := 1) (by decide +kernel) rfl ?_
      exact eh_iret (ty := .int) rfl rfl (by decide +kernel) (Or.inr ⟨_, 1, _, by decide, z, rfl, rfl⟩)
def m_Lw_nights : Mr := (⟨"GripEstatesLaw", "nights", "(LGripEstates;I[J)I"⟩, method_8_code, 4, (some FieldType.int), 1, 6, 8)
def hh_Lw_nights : Hd := [(0, 9, 12, 13)]
def cs_Lw_nights : List (String × Int32) := [("java/lang/IllegalArgumentException", 1)]
theorem h_Lw_nights {p0 : Int32} (hM : EvM G m_Gr_nights (.ref x :: [.int p0]) h Q) (hx : (h.1 x).1 = 10) (ho : G.n0 ≤ out) (hv : ∀ v h', Q (.inl v) h' → h'.1 out = (104, 1) ∧ ∃ y, v = some (.int y)) (hE : ∀ E h', Q (.inr E) h' → E = "java/lang/IllegalArgumentException") : EvMH G m_Lw_nights hh_Lw_nights [.ref x, .int p0, .ref out] h (hQ Q out cs_Lw_nights) := by
  refine EvMH.of (by decide) (fun w hw => by simp only [List.mem_cons, List.not_mem_nil, or_false] at hw; rcases hw with rfl | rfl | rfl <;> rfl) (by show 3 ≤ 4; decide) ?_
  show EvH G m_Lw_nights hh_Lw_nights 0 [.ref x, .int p0, .ref out, un] [] h 0 0 _
  refine eh_aloadn (i := 2) (j := 2) rfl (by decide +kernel) rfl ?_
  refine eh_iconst (n := 0) (v := 0) (by decide +kernel) rfl ?_
  refine eh_aloadn (i := 0) (j := 0) rfl (by decide +kernel) rfl ?_
  refine eh_iloadn (i := 1) (j := 1) rfl (by decide +kernel) rfl ?_
  show EvH G m_Lw_nights hh_Lw_nights 4 [.ref x, .int p0, .ref out, un] (([.int p0] : List Value).reverse ++ .ref x :: [.int 0, .ref out]) h 0 0 _
  refine eh_callV (q := m_Gr_nights) (idx := 34) hM (wd_ok (k := 1172) (by decide +kernel)) (wd_ok (k := 1169) (by decide +kernel)) (wd_ok (k := 134) (by decide +kernel)) (wd_ok (k := 1170) (by decide +kernel)) (wd_ok (k := 1171) (by decide +kernel)) (by show plainB _ 1 = true; decide +kernel) (by decide) (by decide) (Or.inl ⟨9, 13, TX11, rfl, hx⟩) (by show 2 ≤ 8; decide) (by decide +kernel) (by decide) (by decide) (fun v h' z => ?_) (fun E h' z => ?_)
  · obtain ⟨so, y, rfl⟩ := hv v h' z
    show EvH G m_Lw_nights hh_Lw_nights 7 [.ref x, .int p0, .ref out, un] (.int y :: .int 0 :: .ref out :: []) h' _ _ _
    refine eh_i2l (by decide +kernel) ?_
    refine eh_last ho so vp01 (by decide +kernel) ?_
    rw [cln0]
    refine eh_goto (off := 6) (tgt := 15) (by decide +kernel) rfl ?_
    refine eh_iconst (n := 0) (v := 0) (by decide +kernel) rfl ?_
    exact eh_iret (ty := .int) rfl rfl (by decide +kernel) (Or.inl ⟨_, _, z, rfl, rfl⟩)
  · obtain rfl := hE E h' z
    refine ⟨12, ⟨[], ⟨0, 9, 12, 13⟩, [], "java/lang/IllegalArgumentException", rfl, ?_, by decide, by decide, rfl, cl_13, by decide +kernel⟩, fun a => ?_⟩
    · exact fun y hy => absurd hy List.not_mem_nil
    · refine eh_astoren (i := 3) (j := 3) rfl (by decide +kernel) (by decide) ?_
      refine eh_iconst (n := 1) (v := 1) (by decide +kernel) rfl ?_
      exact eh_iret (ty := .int) rfl rfl (by decide +kernel) (Or.inr ⟨_, 1, _, by decide, z, rfl, rfl⟩)
def m_Lw_lay : Mr := (⟨"GripEstatesLaw", "lay", "(LGripEstates;II[J)I"⟩, method_9_code, 5, (some FieldType.int), 3, 18, 8)
def hh_Lw_lay : Hd := [(0, 10, 13, 24), (0, 10, 17, 41)]
def cs_Lw_lay : List (String × Int32) := [("java/lang/IndexOutOfBoundsException", 1), ("java/lang/IllegalStateException", 2)]
theorem h_Lw_lay {p0 p1 : Int32} (hM : EvM G m_Gr_lay (.ref x :: [.int p0, .int p1]) h Q) (hx : (h.1 x).1 = 10) (ho : G.n0 ≤ out) (hv : ∀ v h', Q (.inl v) h' → h'.1 out = (104, 1) ∧ ∃ y, v = some (.int y)) (hE : ∀ E h', Q (.inr E) h' → E = "java/lang/IndexOutOfBoundsException" ∨ E = "java/lang/IllegalStateException") : EvMH G m_Lw_lay hh_Lw_lay [.ref x, .int p0, .int p1, .ref out] h (hQ Q out cs_Lw_lay) := by
  refine EvMH.of (by decide) (fun w hw => by simp only [List.mem_cons, List.not_mem_nil, or_false] at hw; rcases hw with rfl | rfl | rfl | rfl <;> rfl) (by show 4 ≤ 5; decide) ?_
  show EvH G m_Lw_lay hh_Lw_lay 0 [.ref x, .int p0, .int p1, .ref out, un] [] h 0 0 _
  refine eh_aloadn (i := 3) (j := 3) rfl (by decide +kernel) rfl ?_
  refine eh_iconst (n := 0) (v := 0) (by decide +kernel) rfl ?_
  refine eh_aloadn (i := 0) (j := 0) rfl (by decide +kernel) rfl ?_
  refine eh_iloadn (i := 1) (j := 1) rfl (by decide +kernel) rfl ?_
  refine eh_iloadn (i := 2) (j := 2) rfl (by decide +kernel) rfl ?_
  show EvH G m_Lw_lay hh_Lw_lay 5 [.ref x, .int p0, .int p1, .ref out, un] (([.int p0, .int p1] : List Value).reverse ++ .ref x :: [.int 0, .ref out]) h 0 0 _
  refine eh_callV (q := m_Gr_lay) (idx := 38) hM (wd_ok (k := 1223) (by decide +kernel)) (wd_ok (k := 1220) (by decide +kernel)) (wd_ok (k := 134) (by decide +kernel)) (wd_ok (k := 1221) (by decide +kernel)) (wd_ok (k := 1222) (by decide +kernel)) (by show plainB _ 2 = true; decide +kernel) (by decide) (by decide) (Or.inl ⟨9, 13, TX11, rfl, hx⟩) (by show 2 ≤ 8; decide) (by decide +kernel) (by decide) (by decide) (fun v h' z => ?_) (fun E h' z => ?_)
  · obtain ⟨so, y, rfl⟩ := hv v h' z
    show EvH G m_Lw_lay hh_Lw_lay 8 [.ref x, .int p0, .int p1, .ref out, un] (.int y :: .int 0 :: .ref out :: []) h' _ _ _
    refine eh_i2l (by decide +kernel) ?_
    refine eh_last ho so vp01 (by decide +kernel) ?_
    rw [cln0]
    refine eh_goto (off := 11) (tgt := 21) (by decide +kernel) rfl ?_
    refine eh_iconst (n := 0) (v := 0) (by decide +kernel) rfl ?_
    exact eh_iret (ty := .int) rfl rfl (by decide +kernel) (Or.inl ⟨_, _, z, rfl, rfl⟩)
  · obtain rfl | rfl := hE E h' z
    · refine ⟨13, ⟨[], ⟨0, 10, 13, 24⟩, [⟨0, 10, 17, 41⟩], "java/lang/IndexOutOfBoundsException", rfl, ?_, by decide, by decide, rfl, cl_24, by decide +kernel⟩, fun a => ?_⟩
      · exact fun y hy => absurd hy List.not_mem_nil
      · refine eh_astore (i := 4) (by decide +kernel) (by decide) ?_
        refine eh_iconst (n := 1) (v := 1) (by decide +kernel) rfl ?_
        exact eh_iret (ty := .int) rfl rfl (by decide +kernel) (Or.inr ⟨_, 1, _, by decide, z, rfl, rfl⟩)
    · refine ⟨17, ⟨[⟨0, 10, 13, 24⟩], ⟨0, 10, 17, 41⟩, [], "java/lang/IllegalStateException", rfl, ?_, by decide, by decide, rfl, cl_41, by decide +kernel⟩, fun a => ?_⟩
      · intro y hy
        simp only [List.mem_cons, List.not_mem_nil, or_false] at hy
        subst hy
        exact ⟨by decide, _, cl_24, by decide +kernel⟩
      · refine eh_astore (i := 4) (by decide +kernel) (by decide) ?_
        refine eh_iconst (n := 2) (v := 2) (by decide +kernel) rfl ?_
        exact eh_iret (ty := .int) rfl rfl (by decide +kernel) (Or.inr ⟨_, 2, _, by decide, z, rfl, rfl⟩)
def m_Lw_clear : Mr := (⟨"GripEstatesLaw", "clear", "(LGripEstates;I[J)I"⟩, method_10_code, 4, (some FieldType.int), 2, 12, 8)
def hh_Lw_clear : Hd := [(0, 9, 12, 24), (0, 9, 15, 41)]
def cs_Lw_clear : List (String × Int32) := [("java/lang/IndexOutOfBoundsException", 1), ("java/lang/IllegalStateException", 2)]
theorem h_Lw_clear {p0 : Int32} (hM : EvM G m_Gr_clear (.ref x :: [.int p0]) h Q) (hx : (h.1 x).1 = 10) (ho : G.n0 ≤ out) (hv : ∀ v h', Q (.inl v) h' → h'.1 out = (104, 1) ∧ ∃ y, v = some (.int y)) (hE : ∀ E h', Q (.inr E) h' → E = "java/lang/IndexOutOfBoundsException" ∨ E = "java/lang/IllegalStateException") : EvMH G m_Lw_clear hh_Lw_clear [.ref x, .int p0, .ref out] h (hQ Q out cs_Lw_clear) := by
  refine EvMH.of (by decide) (fun w hw => by simp only [List.mem_cons, List.not_mem_nil, or_false] at hw; rcases hw with rfl | rfl | rfl <;> rfl) (by show 3 ≤ 4; decide) ?_
  show EvH G m_Lw_clear hh_Lw_clear 0 [.ref x, .int p0, .ref out, un] [] h 0 0 _
  refine eh_aloadn (i := 2) (j := 2) rfl (by decide +kernel) rfl ?_
  refine eh_iconst (n := 0) (v := 0) (by decide +kernel) rfl ?_
  refine eh_aloadn (i := 0) (j := 0) rfl (by decide +kernel) rfl ?_
  refine eh_iloadn (i := 1) (j := 1) rfl (by decide +kernel) rfl ?_
  show EvH G m_Lw_clear hh_Lw_clear 4 [.ref x, .int p0, .ref out, un] (([.int p0] : List Value).reverse ++ .ref x :: [.int 0, .ref out]) h 0 0 _
  refine eh_callV (q := m_Gr_clear) (idx := 43) hM (wd_ok (k := 1254) (by decide +kernel)) (wd_ok (k := 1251) (by decide +kernel)) (wd_ok (k := 134) (by decide +kernel)) (wd_ok (k := 1252) (by decide +kernel)) (wd_ok (k := 1253) (by decide +kernel)) (by show plainB _ 1 = true; decide +kernel) (by decide) (by decide) (Or.inl ⟨9, 13, TX11, rfl, hx⟩) (by show 2 ≤ 8; decide) (by decide +kernel) (by decide) (by decide) (fun v h' z => ?_) (fun E h' z => ?_)
  · obtain ⟨so, y, rfl⟩ := hv v h' z
    show EvH G m_Lw_clear hh_Lw_clear 7 [.ref x, .int p0, .ref out, un] (.int y :: .int 0 :: .ref out :: []) h' _ _ _
    refine eh_i2l (by decide +kernel) ?_
    refine eh_last ho so vp01 (by decide +kernel) ?_
    rw [cln0]
    refine eh_goto (off := 9) (tgt := 18) (by decide +kernel) rfl ?_
    refine eh_iconst (n := 0) (v := 0) (by decide +kernel) rfl ?_
    exact eh_iret (ty := .int) rfl rfl (by decide +kernel) (Or.inl ⟨_, _, z, rfl, rfl⟩)
  · obtain rfl | rfl := hE E h' z
    · refine ⟨12, ⟨[], ⟨0, 9, 12, 24⟩, [⟨0, 9, 15, 41⟩], "java/lang/IndexOutOfBoundsException", rfl, ?_, by decide, by decide, rfl, cl_24, by decide +kernel⟩, fun a => ?_⟩
      · exact fun y hy => absurd hy List.not_mem_nil
      · refine eh_astoren (i := 3) (j := 3) rfl (by decide +kernel) (by decide) ?_
        refine eh_iconst (n := 1) (v := 1) (by decide +kernel) rfl ?_
        exact eh_iret (ty := .int) rfl rfl (by decide +kernel) (Or.inr ⟨_, 1, _, by decide, z, rfl, rfl⟩)
    · refine ⟨15, ⟨[⟨0, 9, 12, 24⟩], ⟨0, 9, 15, 41⟩, [], "java/lang/IllegalStateException", rfl, ?_, by decide, by decide, rfl, cl_41, by decide +kernel⟩, fun a => ?_⟩
      · intro y hy
        simp only [List.mem_cons, List.not_mem_nil, or_false] at hy
        subst hy
        exact ⟨by decide, _, cl_24, by decide +kernel⟩
      · refine eh_astoren (i := 3) (j := 3) rfl (by decide +kernel) (by decide) ?_
        refine eh_iconst (n := 2) (v := 2) (by decide +kernel) rfl ?_
        exact eh_iret (ty := .int) rfl rfl (by decide +kernel) (Or.inr ⟨_, 2, _, by decide, z, rfl, rfl⟩)
def m_Lw_wake : Mr := (⟨"GripEstatesLaw", "wake", "(LGripEstates;I[J)I"⟩, method_11_code, 4, (some FieldType.int), 3, 18, 8)
def hh_Lw_wake : Hd := [(0, 9, 12, 24), (0, 9, 15, 41)]
def cs_Lw_wake : List (String × Int32) := [("java/lang/IndexOutOfBoundsException", 1), ("java/lang/IllegalStateException", 2)]
theorem h_Lw_wake {p0 : Int32} (hM : EvM G m_Gr_wake (.ref x :: [.int p0]) h Q) (hx : (h.1 x).1 = 10) (ho : G.n0 ≤ out) (hv : ∀ v h', Q (.inl v) h' → h'.1 out = (104, 1) ∧ ∃ y, v = some (.int y)) (hE : ∀ E h', Q (.inr E) h' → E = "java/lang/IndexOutOfBoundsException" ∨ E = "java/lang/IllegalStateException") : EvMH G m_Lw_wake hh_Lw_wake [.ref x, .int p0, .ref out] h (hQ Q out cs_Lw_wake) := by
  refine EvMH.of (by decide) (fun w hw => by simp only [List.mem_cons, List.not_mem_nil, or_false] at hw; rcases hw with rfl | rfl | rfl <;> rfl) (by show 3 ≤ 4; decide) ?_
  show EvH G m_Lw_wake hh_Lw_wake 0 [.ref x, .int p0, .ref out, un] [] h 0 0 _
  refine eh_aloadn (i := 2) (j := 2) rfl (by decide +kernel) rfl ?_
  refine eh_iconst (n := 0) (v := 0) (by decide +kernel) rfl ?_
  refine eh_aloadn (i := 0) (j := 0) rfl (by decide +kernel) rfl ?_
  refine eh_iloadn (i := 1) (j := 1) rfl (by decide +kernel) rfl ?_
  show EvH G m_Lw_wake hh_Lw_wake 4 [.ref x, .int p0, .ref out, un] (([.int p0] : List Value).reverse ++ .ref x :: [.int 0, .ref out]) h 0 0 _
  refine eh_callV (q := m_Gr_wake) (idx := 46) hM (wd_ok (k := 1261) (by decide +kernel)) (wd_ok (k := 1258) (by decide +kernel)) (wd_ok (k := 134) (by decide +kernel)) (wd_ok (k := 1259) (by decide +kernel)) (wd_ok (k := 1260) (by decide +kernel)) (by show plainB _ 1 = true; decide +kernel) (by decide) (by decide) (Or.inl ⟨9, 13, TX11, rfl, hx⟩) (by show 2 ≤ 8; decide) (by decide +kernel) (by decide) (by decide) (fun v h' z => ?_) (fun E h' z => ?_)
  · obtain ⟨so, y, rfl⟩ := hv v h' z
    show EvH G m_Lw_wake hh_Lw_wake 7 [.ref x, .int p0, .ref out, un] (.int y :: .int 0 :: .ref out :: []) h' _ _ _
    refine eh_i2l (by decide +kernel) ?_
    refine eh_last ho so vp01 (by decide +kernel) ?_
    rw [cln0]
    refine eh_goto (off := 9) (tgt := 18) (by decide +kernel) rfl ?_
    refine eh_iconst (n := 0) (v := 0) (by decide +kernel) rfl ?_
    exact eh_iret (ty := .int) rfl rfl (by decide +kernel) (Or.inl ⟨_, _, z, rfl, rfl⟩)
  · obtain rfl | rfl := hE E h' z
    · refine ⟨12, ⟨[], ⟨0, 9, 12, 24⟩, [⟨0, 9, 15, 41⟩], "java/lang/IndexOutOfBoundsException", rfl, ?_, by decide, by decide, rfl, cl_24, by decide +kernel⟩, fun a => ?_⟩
      · exact fun y hy => absurd hy List.not_mem_nil
      · refine eh_astoren (i := 3) (j := 3) rfl (by decide +kernel) (by decide) ?_
        refine eh_iconst (n := 1) (v := 1) (by decide +kernel) rfl ?_
        exact eh_iret (ty := .int) rfl rfl (by decide +kernel) (Or.inr ⟨_, 1, _, by decide, z, rfl, rfl⟩)
    · refine ⟨15, ⟨[⟨0, 9, 12, 24⟩], ⟨0, 9, 15, 41⟩, [], "java/lang/IllegalStateException", rfl, ?_, by decide, by decide, rfl, cl_41, by decide +kernel⟩, fun a => ?_⟩
      · intro y hy
        simp only [List.mem_cons, List.not_mem_nil, or_false] at hy
        subst hy
        exact ⟨by decide, _, cl_24, by decide +kernel⟩
      · refine eh_astoren (i := 3) (j := 3) rfl (by decide +kernel) (by decide) ?_
        refine eh_iconst (n := 2) (v := 2) (by decide +kernel) rfl ?_
        exact eh_iret (ty := .int) rfl rfl (by decide +kernel) (Or.inr ⟨_, 2, _, by decide, z, rfl, rfl⟩)
def m_Lw_open : Mr := (⟨"GripEstatesLaw", "open", "(LGripEstates;I[J)I"⟩, method_12_code, 4, (some FieldType.int), 2, 12, 8)
def hh_Lw_open : Hd := [(0, 9, 12, 24), (0, 9, 15, 41)]
def cs_Lw_open : List (String × Int32) := [("java/lang/IndexOutOfBoundsException", 1), ("java/lang/IllegalStateException", 2)]
theorem h_Lw_open {p0 : Int32} (hM : EvM G m_Gr_open (.ref x :: [.int p0]) h Q) (hx : (h.1 x).1 = 10) (ho : G.n0 ≤ out) (hv : ∀ v h', Q (.inl v) h' → h'.1 out = (104, 1) ∧ ∃ y, v = some (.int y)) (hE : ∀ E h', Q (.inr E) h' → E = "java/lang/IndexOutOfBoundsException" ∨ E = "java/lang/IllegalStateException") : EvMH G m_Lw_open hh_Lw_open [.ref x, .int p0, .ref out] h (hQ Q out cs_Lw_open) := by
  refine EvMH.of (by decide) (fun w hw => by simp only [List.mem_cons, List.not_mem_nil, or_false] at hw; rcases hw with rfl | rfl | rfl <;> rfl) (by show 3 ≤ 4; decide) ?_
  show EvH G m_Lw_open hh_Lw_open 0 [.ref x, .int p0, .ref out, un] [] h 0 0 _
  refine eh_aloadn (i := 2) (j := 2) rfl (by decide +kernel) rfl ?_
  refine eh_iconst (n := 0) (v := 0) (by decide +kernel) rfl ?_
  refine eh_aloadn (i := 0) (j := 0) rfl (by decide +kernel) rfl ?_
  refine eh_iloadn (i := 1) (j := 1) rfl (by decide +kernel) rfl ?_
  show EvH G m_Lw_open hh_Lw_open 4 [.ref x, .int p0, .ref out, un] (([.int p0] : List Value).reverse ++ .ref x :: [.int 0, .ref out]) h 0 0 _
  refine eh_callV (q := m_Gr_open) (idx := 49) hM (wd_ok (k := 1269) (by decide +kernel)) (wd_ok (k := 1266) (by decide +kernel)) (wd_ok (k := 134) (by decide +kernel)) (wd_ok (k := 1267) (by decide +kernel)) (wd_ok (k := 1268) (by decide +kernel)) (by show plainB _ 1 = true; decide +kernel) (by decide) (by decide) (Or.inl ⟨9, 13, TX11, rfl, hx⟩) (by show 2 ≤ 8; decide) (by decide +kernel) (by decide) (by decide) (fun v h' z => ?_) (fun E h' z => ?_)
  · obtain ⟨so, y, rfl⟩ := hv v h' z
    show EvH G m_Lw_open hh_Lw_open 7 [.ref x, .int p0, .ref out, un] (.int y :: .int 0 :: .ref out :: []) h' _ _ _
    refine eh_i2l (by decide +kernel) ?_
    refine eh_last ho so vp01 (by decide +kernel) ?_
    rw [cln0]
    refine eh_goto (off := 9) (tgt := 18) (by decide +kernel) rfl ?_
    refine eh_iconst (n := 0) (v := 0) (by decide +kernel) rfl ?_
    exact eh_iret (ty := .int) rfl rfl (by decide +kernel) (Or.inl ⟨_, _, z, rfl, rfl⟩)
  · obtain rfl | rfl := hE E h' z
    · refine ⟨12, ⟨[], ⟨0, 9, 12, 24⟩, [⟨0, 9, 15, 41⟩], "java/lang/IndexOutOfBoundsException", rfl, ?_, by decide, by decide, rfl, cl_24, by decide +kernel⟩, fun a => ?_⟩
      · exact fun y hy => absurd hy List.not_mem_nil
      · refine eh_astoren (i := 3) (j := 3) rfl (by decide +kernel) (by decide) ?_
        refine eh_iconst (n := 1) (v := 1) (by decide +kernel) rfl ?_
        exact eh_iret (ty := .int) rfl rfl (by decide +kernel) (Or.inr ⟨_, 1, _, by decide, z, rfl, rfl⟩)
    · refine ⟨15, ⟨[⟨0, 9, 12, 24⟩], ⟨0, 9, 15, 41⟩, [], "java/lang/IllegalStateException", rfl, ?_, by decide, by decide, rfl, cl_41, by decide +kernel⟩, fun a => ?_⟩
      · intro y hy
        simp only [List.mem_cons, List.not_mem_nil, or_false] at hy
        subst hy
        exact ⟨by decide, _, cl_24, by decide +kernel⟩
      · refine eh_astoren (i := 3) (j := 3) rfl (by decide +kernel) (by decide) ?_
        refine eh_iconst (n := 2) (v := 2) (by decide +kernel) rfl ?_
        exact eh_iret (ty := .int) rfl rfl (by decide +kernel) (Or.inr ⟨_, 2, _, by decide, z, rfl, rfl⟩)
def m_Lw_swap : Mr := (⟨"GripEstatesLaw", "swap", "(LGripEstates;II[J)I"⟩, method_13_code, 5, (some FieldType.int), 4, 24, 8)
def hh_Lw_swap : Hd := [(0, 10, 13, 24), (0, 10, 17, 13), (0, 10, 21, 41)]
def cs_Lw_swap : List (String × Int32) := [("java/lang/IndexOutOfBoundsException", 1), ("java/lang/IllegalArgumentException", 2), ("java/lang/IllegalStateException", 3)]
theorem h_Lw_swap {p0 p1 : Int32} (hM : EvM G m_Gr_swap (.ref x :: [.int p0, .int p1]) h Q) (hx : (h.1 x).1 = 10) (ho : G.n0 ≤ out) (hv : ∀ v h', Q (.inl v) h' → h'.1 out = (104, 1) ∧ ∃ y, v = some (.int y)) (hE : ∀ E h', Q (.inr E) h' → E = "java/lang/IndexOutOfBoundsException" ∨ E = "java/lang/IllegalArgumentException" ∨ E = "java/lang/IllegalStateException") : EvMH G m_Lw_swap hh_Lw_swap [.ref x, .int p0, .int p1, .ref out] h (hQ Q out cs_Lw_swap) := by
  refine EvMH.of (by decide) (fun w hw => by simp only [List.mem_cons, List.not_mem_nil, or_false] at hw; rcases hw with rfl | rfl | rfl | rfl <;> rfl) (by show 4 ≤ 5; decide) ?_
  show EvH G m_Lw_swap hh_Lw_swap 0 [.ref x, .int p0, .int p1, .ref out, un] [] h 0 0 _
  refine eh_aloadn (i := 3) (j := 3) rfl (by decide +kernel) rfl ?_
  refine eh_iconst (n := 0) (v := 0) (by decide +kernel) rfl ?_
  refine eh_aloadn (i := 0) (j := 0) rfl (by decide +kernel) rfl ?_
  refine eh_iloadn (i := 1) (j := 1) rfl (by decide +kernel) rfl ?_
  refine eh_iloadn (i := 2) (j := 2) rfl (by decide +kernel) rfl ?_
  show EvH G m_Lw_swap hh_Lw_swap 5 [.ref x, .int p0, .int p1, .ref out, un] (([.int p0, .int p1] : List Value).reverse ++ .ref x :: [.int 0, .ref out]) h 0 0 _
  refine eh_callV (q := m_Gr_swap) (idx := 52) hM (wd_ok (k := 1276) (by decide +kernel)) (wd_ok (k := 1273) (by decide +kernel)) (wd_ok (k := 134) (by decide +kernel)) (wd_ok (k := 1274) (by decide +kernel)) (wd_ok (k := 1275) (by decide +kernel)) (by show plainB _ 2 = true; decide +kernel) (by decide) (by decide) (Or.inl ⟨9, 13, TX11, rfl, hx⟩) (by show 2 ≤ 8; decide) (by decide +kernel) (by decide) (by decide) (fun v h' z => ?_) (fun E h' z => ?_)
  · obtain ⟨so, y, rfl⟩ := hv v h' z
    show EvH G m_Lw_swap hh_Lw_swap 8 [.ref x, .int p0, .int p1, .ref out, un] (.int y :: .int 0 :: .ref out :: []) h' _ _ _
    refine eh_i2l (by decide +kernel) ?_
    refine eh_last ho so vp01 (by decide +kernel) ?_
    rw [cln0]
    refine eh_goto (off := 15) (tgt := 25) (by decide +kernel) rfl ?_
    refine eh_iconst (n := 0) (v := 0) (by decide +kernel) rfl ?_
    exact eh_iret (ty := .int) rfl rfl (by decide +kernel) (Or.inl ⟨_, _, z, rfl, rfl⟩)
  · obtain rfl | rfl | rfl := hE E h' z
    · refine ⟨13, ⟨[], ⟨0, 10, 13, 24⟩, [⟨0, 10, 17, 13⟩, ⟨0, 10, 21, 41⟩], "java/lang/IndexOutOfBoundsException", rfl, ?_, by decide, by decide, rfl, cl_24, by decide +kernel⟩, fun a => ?_⟩
      · exact fun y hy => absurd hy List.not_mem_nil
      · refine eh_astore (i := 4) (by decide +kernel) (by decide) ?_
        refine eh_iconst (n := 1) (v := 1) (by decide +kernel) rfl ?_
        exact eh_iret (ty := .int) rfl rfl (by decide +kernel) (Or.inr ⟨_, 1, _, by decide, z, rfl, rfl⟩)
    · refine ⟨17, ⟨[⟨0, 10, 13, 24⟩], ⟨0, 10, 17, 13⟩, [⟨0, 10, 21, 41⟩], "java/lang/IllegalArgumentException", rfl, ?_, by decide, by decide, rfl, cl_13, by decide +kernel⟩, fun a => ?_⟩
      · intro y hy
        simp only [List.mem_cons, List.not_mem_nil, or_false] at hy
        subst hy
        exact ⟨by decide, _, cl_24, by decide +kernel⟩
      · refine eh_astore (i := 4) (by decide +kernel) (by decide) ?_
        refine eh_iconst (n := 2) (v := 2) (by decide +kernel) rfl ?_
        exact eh_iret (ty := .int) rfl rfl (by decide +kernel) (Or.inr ⟨_, 2, _, by decide, z, rfl, rfl⟩)
    · refine ⟨21, ⟨[⟨0, 10, 13, 24⟩, ⟨0, 10, 17, 13⟩], ⟨0, 10, 21, 41⟩, [], "java/lang/IllegalStateException", rfl, ?_, by decide, by decide, rfl, cl_41, by decide +kernel⟩, fun a => ?_⟩
      · intro y hy
        simp only [List.mem_cons, List.not_mem_nil, or_false] at hy
        rcases hy with rfl | rfl
        · exact ⟨by decide, _, cl_24, by decide +kernel⟩
        · exact ⟨by decide, _, cl_13, by decide +kernel⟩
      · refine eh_astore (i := 4) (by decide +kernel) (by decide) ?_
        refine eh_iconst (n := 3) (v := 3) (by decide +kernel) rfl ?_
        exact eh_iret (ty := .int) rfl rfl (by decide +kernel) (Or.inr ⟨_, 3, _, by decide, z, rfl, rfl⟩)
def m_Lw_heir : Mr := (⟨"GripEstatesLaw", "heir", "(LGripEstates;II[J)I"⟩, method_14_code, 5, (some FieldType.int), 3, 18, 8)
def hh_Lw_heir : Hd := [(0, 10, 13, 24), (0, 10, 17, 13)]
def cs_Lw_heir : List (String × Int32) := [("java/lang/IndexOutOfBoundsException", 1), ("java/lang/IllegalArgumentException", 2)]
theorem h_Lw_heir {p0 p1 : Int32} (hM : EvM G m_Gr_heir (.ref x :: [.int p0, .int p1]) h Q) (hx : (h.1 x).1 = 10) (ho : G.n0 ≤ out) (hv : ∀ v h', Q (.inl v) h' → h'.1 out = (104, 1) ∧ ∃ y, v = some (.int y)) (hE : ∀ E h', Q (.inr E) h' → E = "java/lang/IndexOutOfBoundsException" ∨ E = "java/lang/IllegalArgumentException") : EvMH G m_Lw_heir hh_Lw_heir [.ref x, .int p0, .int p1, .ref out] h (hQ Q out cs_Lw_heir) := by
  refine EvMH.of (by decide) (fun w hw => by simp only [List.mem_cons, List.not_mem_nil, or_false] at hw; rcases hw with rfl | rfl | rfl | rfl <;> rfl) (by show 4 ≤ 5; decide) ?_
  show EvH G m_Lw_heir hh_Lw_heir 0 [.ref x, .int p0, .int p1, .ref out, un] [] h 0 0 _
  refine eh_aloadn (i := 3) (j := 3) rfl (by decide +kernel) rfl ?_
  refine eh_iconst (n := 0) (v := 0) (by decide +kernel) rfl ?_
  refine eh_aloadn (i := 0) (j := 0) rfl (by decide +kernel) rfl ?_
  refine eh_iloadn (i := 1) (j := 1) rfl (by decide +kernel) rfl ?_
  refine eh_iloadn (i := 2) (j := 2) rfl (by decide +kernel) rfl ?_
  show EvH G m_Lw_heir hh_Lw_heir 5 [.ref x, .int p0, .int p1, .ref out, un] (([.int p0, .int p1] : List Value).reverse ++ .ref x :: [.int 0, .ref out]) h 0 0 _
  refine eh_callV (q := m_Gr_heir) (idx := 55) hM (wd_ok (k := 1287) (by decide +kernel)) (wd_ok (k := 1284) (by decide +kernel)) (wd_ok (k := 134) (by decide +kernel)) (wd_ok (k := 1285) (by decide +kernel)) (wd_ok (k := 1286) (by decide +kernel)) (by show plainB _ 2 = true; decide +kernel) (by decide) (by decide) (Or.inl ⟨9, 13, TX11, rfl, hx⟩) (by show 2 ≤ 8; decide) (by decide +kernel) (by decide) (by decide) (fun v h' z => ?_) (fun E h' z => ?_)
  · obtain ⟨so, y, rfl⟩ := hv v h' z
    show EvH G m_Lw_heir hh_Lw_heir 8 [.ref x, .int p0, .int p1, .ref out, un] (.int y :: .int 0 :: .ref out :: []) h' _ _ _
    refine eh_i2l (by decide +kernel) ?_
    refine eh_last ho so vp01 (by decide +kernel) ?_
    rw [cln0]
    refine eh_goto (off := 11) (tgt := 21) (by decide +kernel) rfl ?_
    refine eh_iconst (n := 0) (v := 0) (by decide +kernel) rfl ?_
    exact eh_iret (ty := .int) rfl rfl (by decide +kernel) (Or.inl ⟨_, _, z, rfl, rfl⟩)
  · obtain rfl | rfl := hE E h' z
    · refine ⟨13, ⟨[], ⟨0, 10, 13, 24⟩, [⟨0, 10, 17, 13⟩], "java/lang/IndexOutOfBoundsException", rfl, ?_, by decide, by decide, rfl, cl_24, by decide +kernel⟩, fun a => ?_⟩
      · exact fun y hy => absurd hy List.not_mem_nil
      · refine eh_astore (i := 4) (by decide +kernel) (by decide) ?_
        refine eh_iconst (n := 1) (v := 1) (by decide +kernel) rfl ?_
        exact eh_iret (ty := .int) rfl rfl (by decide +kernel) (Or.inr ⟨_, 1, _, by decide, z, rfl, rfl⟩)
    · refine ⟨17, ⟨[⟨0, 10, 13, 24⟩], ⟨0, 10, 17, 13⟩, [], "java/lang/IllegalArgumentException", rfl, ?_, by decide, by decide, rfl, cl_13, by decide +kernel⟩, fun a => ?_⟩
      · intro y hy
        simp only [List.mem_cons, List.not_mem_nil, or_false] at hy
        subst hy
        exact ⟨by decide, _, cl_24, by decide +kernel⟩
      · refine eh_astore (i := 4) (by decide +kernel) (by decide) ?_
        refine eh_iconst (n := 2) (v := 2) (by decide +kernel) rfl ?_
        exact eh_iret (ty := .int) rfl rfl (by decide +kernel) (Or.inr ⟨_, 2, _, by decide, z, rfl, rfl⟩)
def m_Lw_tie : Mr := (⟨"GripEstatesLaw", "tie", "(LGripEstates;IZ[J)I"⟩, method_15_code, 5, (some FieldType.int), 1, 6, 8)
def hh_Lw_tie : Hd := [(0, 17, 20, 24)]
def cs_Lw_tie : List (String × Int32) := [("java/lang/IndexOutOfBoundsException", 1)]
theorem h_Lw_tie {p0 p1 : Int32} (hM : EvM G m_Gr_tie (.ref x :: [.int p0, .int p1]) h Q) (hx : (h.1 x).1 = 10) (ho : G.n0 ≤ out) (hv : ∀ v h', Q (.inl v) h' → h'.1 out = (104, 1) ∧ ∃ y, v = some (.int y) ∧ (y = 0 ∨ y = 1)) (hE : ∀ E h', Q (.inr E) h' → E = "java/lang/IndexOutOfBoundsException") : EvMH G m_Lw_tie hh_Lw_tie [.ref x, .int p0, .int p1, .ref out] h (hQ Q out cs_Lw_tie) := by
  refine EvMH.of (by decide) (fun w hw => by simp only [List.mem_cons, List.not_mem_nil, or_false] at hw; rcases hw with rfl | rfl | rfl | rfl <;> rfl) (by show 4 ≤ 5; decide) ?_
  show EvH G m_Lw_tie hh_Lw_tie 0 [.ref x, .int p0, .int p1, .ref out, un] [] h 0 0 _
  refine eh_aloadn (i := 3) (j := 3) rfl (by decide +kernel) rfl ?_
  refine eh_iconst (n := 0) (v := 0) (by decide +kernel) rfl ?_
  refine eh_aloadn (i := 0) (j := 0) rfl (by decide +kernel) rfl ?_
  refine eh_iloadn (i := 1) (j := 1) rfl (by decide +kernel) rfl ?_
  refine eh_iloadn (i := 2) (j := 2) rfl (by decide +kernel) rfl ?_
  show EvH G m_Lw_tie hh_Lw_tie 5 [.ref x, .int p0, .int p1, .ref out, un] (([.int p0, .int p1] : List Value).reverse ++ .ref x :: [.int 0, .ref out]) h 0 0 _
  refine eh_callV (q := m_Gr_tie) (idx := 58) hM (wd_ok (k := 1294) (by decide +kernel)) (wd_ok (k := 1291) (by decide +kernel)) (wd_ok (k := 134) (by decide +kernel)) (wd_ok (k := 1292) (by decide +kernel)) (wd_ok (k := 1293) (by decide +kernel)) (by show plainB _ 2 = true; decide +kernel) (by decide) (by decide) (Or.inl ⟨9, 13, TX11, rfl, hx⟩) (by show 2 ≤ 8; decide) (by decide +kernel) (by decide) (by decide) (fun v h' z => ?_) (fun E h' z => ?_)
  · obtain ⟨so, y, rfl, yb⟩ := hv v h' z
    show EvH G m_Lw_tie hh_Lw_tie 8 [.ref x, .int p0, .int p1, .ref out, un] (.int y :: .int 0 :: .ref out :: []) h' _ _ _
    refine eh_if_eq (off := 7) (tgt := 15) (by decide +kernel) rfl (fun y0 => ?_) (fun y1 => ?_)
    · subst y0
      refine eh_lconst (n := 0) (v := 0) (by decide +kernel) rfl ?_
      refine eh_last ho so vp01 (by decide +kernel) ?_
      rw [cln0]
      refine eh_goto (off := 7) (tgt := 24) (by decide +kernel) rfl ?_
      refine eh_iconst (n := 0) (v := 0) (by decide +kernel) rfl ?_
      exact eh_iret (ty := .int) rfl rfl (by decide +kernel) (Or.inl ⟨_, _, z, rfl, rfl⟩)
    · obtain rfl : y = 1 := yb.resolve_left y1
      refine eh_lconst (n := 1) (v := 1) (by decide +kernel) rfl ?_
      refine eh_goto (off := 4) (tgt := 16) (by decide +kernel) rfl ?_
      refine eh_last ho so vp01 (by decide +kernel) ?_
      rw [cln0]
      refine eh_goto (off := 7) (tgt := 24) (by decide +kernel) rfl ?_
      refine eh_iconst (n := 0) (v := 0) (by decide +kernel) rfl ?_
      exact eh_iret (ty := .int) rfl rfl (by decide +kernel) (Or.inl ⟨_, _, z, rfl, rfl⟩)
  · obtain rfl := hE E h' z
    refine ⟨20, ⟨[], ⟨0, 17, 20, 24⟩, [], "java/lang/IndexOutOfBoundsException", rfl, ?_, by decide, by decide, rfl, cl_24, by decide +kernel⟩, fun a => ?_⟩
    · exact fun y hy => absurd hy List.not_mem_nil
    · refine eh_astore (i := 4) (by decide +kernel) (by decide) ?_
      refine eh_iconst (n := 1) (v := 1) (by decide +kernel) rfl ?_
      exact eh_iret (ty := .int) rfl rfl (by decide +kernel) (Or.inr ⟨_, 1, _, by decide, z, rfl, rfl⟩)
def m_Lw_born : Mr := (⟨"GripEstatesLaw", "born", "(LGripEstates;I[J)I"⟩, method_16_code, 4, (some FieldType.int), 2, 12, 8)
def hh_Lw_born : Hd := [(0, 9, 12, 13), (0, 9, 15, 41)]
def cs_Lw_born : List (String × Int32) := [("java/lang/IllegalArgumentException", 1), ("java/lang/IllegalStateException", 2)]
theorem h_Lw_born {p0 : Int32} (hM : EvM G m_Gr_born (.ref x :: [.int p0]) h Q) (hx : (h.1 x).1 = 10) (ho : G.n0 ≤ out) (hv : ∀ v h', Q (.inl v) h' → h'.1 out = (104, 1) ∧ ∃ y, v = some (.int y)) (hE : ∀ E h', Q (.inr E) h' → E = "java/lang/IllegalArgumentException" ∨ E = "java/lang/IllegalStateException") : EvMH G m_Lw_born hh_Lw_born [.ref x, .int p0, .ref out] h (hQ Q out cs_Lw_born) := by
  refine EvMH.of (by decide) (fun w hw => by simp only [List.mem_cons, List.not_mem_nil, or_false] at hw; rcases hw with rfl | rfl | rfl <;> rfl) (by show 3 ≤ 4; decide) ?_
  show EvH G m_Lw_born hh_Lw_born 0 [.ref x, .int p0, .ref out, un] [] h 0 0 _
  refine eh_aloadn (i := 2) (j := 2) rfl (by decide +kernel) rfl ?_
  refine eh_iconst (n := 0) (v := 0) (by decide +kernel) rfl ?_
  refine eh_aloadn (i := 0) (j := 0) rfl (by decide +kernel) rfl ?_
  refine eh_iloadn (i := 1) (j := 1) rfl (by decide +kernel) rfl ?_
  show EvH G m_Lw_born hh_Lw_born 4 [.ref x, .int p0, .ref out, un] (([.int p0] : List Value).reverse ++ .ref x :: [.int 0, .ref out]) h 0 0 _
  refine eh_callV (q := m_Gr_born) (idx := 62) hM (wd_ok (k := 1301) (by decide +kernel)) (wd_ok (k := 1298) (by decide +kernel)) (wd_ok (k := 134) (by decide +kernel)) (wd_ok (k := 1299) (by decide +kernel)) (wd_ok (k := 1300) (by decide +kernel)) (by show plainB _ 1 = true; decide +kernel) (by decide) (by decide) (Or.inl ⟨9, 13, TX11, rfl, hx⟩) (by show 2 ≤ 8; decide) (by decide +kernel) (by decide) (by decide) (fun v h' z => ?_) (fun E h' z => ?_)
  · obtain ⟨so, y, rfl⟩ := hv v h' z
    show EvH G m_Lw_born hh_Lw_born 7 [.ref x, .int p0, .ref out, un] (.int y :: .int 0 :: .ref out :: []) h' _ _ _
    refine eh_i2l (by decide +kernel) ?_
    refine eh_last ho so vp01 (by decide +kernel) ?_
    rw [cln0]
    refine eh_goto (off := 9) (tgt := 18) (by decide +kernel) rfl ?_
    refine eh_iconst (n := 0) (v := 0) (by decide +kernel) rfl ?_
    exact eh_iret (ty := .int) rfl rfl (by decide +kernel) (Or.inl ⟨_, _, z, rfl, rfl⟩)
  · obtain rfl | rfl := hE E h' z
    · refine ⟨12, ⟨[], ⟨0, 9, 12, 13⟩, [⟨0, 9, 15, 41⟩], "java/lang/IllegalArgumentException", rfl, ?_, by decide, by decide, rfl, cl_13, by decide +kernel⟩, fun a => ?_⟩
      · exact fun y hy => absurd hy List.not_mem_nil
      · refine eh_astoren (i := 3) (j := 3) rfl (by decide +kernel) (by decide) ?_
        refine eh_iconst (n := 1) (v := 1) (by decide +kernel) rfl ?_
        exact eh_iret (ty := .int) rfl rfl (by decide +kernel) (Or.inr ⟨_, 1, _, by decide, z, rfl, rfl⟩)
    · refine ⟨15, ⟨[⟨0, 9, 12, 13⟩], ⟨0, 9, 15, 41⟩, [], "java/lang/IllegalStateException", rfl, ?_, by decide, by decide, rfl, cl_41, by decide +kernel⟩, fun a => ?_⟩
      · intro y hy
        simp only [List.mem_cons, List.not_mem_nil, or_false] at hy
        subst hy
        exact ⟨by decide, _, cl_13, by decide +kernel⟩
      · refine eh_astoren (i := 3) (j := 3) rfl (by decide +kernel) (by decide) ?_
        refine eh_iconst (n := 2) (v := 2) (by decide +kernel) rfl ?_
        exact eh_iret (ty := .int) rfl rfl (by decide +kernel) (Or.inr ⟨_, 2, _, by decide, z, rfl, rfl⟩)
def m_Lw_give : Mr := (⟨"GripEstatesLaw", "give", "(LGripEstates;II[J)I"⟩, method_17_code, 5, (some FieldType.int), 3, 18, 8)
def hh_Lw_give : Hd := [(0, 10, 13, 24), (0, 10, 17, 41)]
def cs_Lw_give : List (String × Int32) := [("java/lang/IndexOutOfBoundsException", 1), ("java/lang/IllegalStateException", 2)]
theorem h_Lw_give {p0 p1 : Int32} (hM : EvM G m_Gr_give (.ref x :: [.int p0, .int p1]) h Q) (hx : (h.1 x).1 = 10) (ho : G.n0 ≤ out) (hv : ∀ v h', Q (.inl v) h' → h'.1 out = (104, 1) ∧ ∃ y, v = some (.int y)) (hE : ∀ E h', Q (.inr E) h' → E = "java/lang/IndexOutOfBoundsException" ∨ E = "java/lang/IllegalStateException") : EvMH G m_Lw_give hh_Lw_give [.ref x, .int p0, .int p1, .ref out] h (hQ Q out cs_Lw_give) := by
  refine EvMH.of (by decide) (fun w hw => by simp only [List.mem_cons, List.not_mem_nil, or_false] at hw; rcases hw with rfl | rfl | rfl | rfl <;> rfl) (by show 4 ≤ 5; decide) ?_
  show EvH G m_Lw_give hh_Lw_give 0 [.ref x, .int p0, .int p1, .ref out, un] [] h 0 0 _
  refine eh_aloadn (i := 3) (j := 3) rfl (by decide +kernel) rfl ?_
  refine eh_iconst (n := 0) (v := 0) (by decide +kernel) rfl ?_
  refine eh_aloadn (i := 0) (j := 0) rfl (by decide +kernel) rfl ?_
  refine eh_iloadn (i := 1) (j := 1) rfl (by decide +kernel) rfl ?_
  refine eh_iloadn (i := 2) (j := 2) rfl (by decide +kernel) rfl ?_
  show EvH G m_Lw_give hh_Lw_give 5 [.ref x, .int p0, .int p1, .ref out, un] (([.int p0, .int p1] : List Value).reverse ++ .ref x :: [.int 0, .ref out]) h 0 0 _
  refine eh_callV (q := m_Gr_give) (idx := 65) hM (wd_ok (k := 1309) (by decide +kernel)) (wd_ok (k := 1306) (by decide +kernel)) (wd_ok (k := 134) (by decide +kernel)) (wd_ok (k := 1307) (by decide +kernel)) (wd_ok (k := 1308) (by decide +kernel)) (by show plainB _ 2 = true; decide +kernel) (by decide) (by decide) (Or.inl ⟨9, 13, TX11, rfl, hx⟩) (by show 2 ≤ 8; decide) (by decide +kernel) (by decide) (by decide) (fun v h' z => ?_) (fun E h' z => ?_)
  · obtain ⟨so, y, rfl⟩ := hv v h' z
    show EvH G m_Lw_give hh_Lw_give 8 [.ref x, .int p0, .int p1, .ref out, un] (.int y :: .int 0 :: .ref out :: []) h' _ _ _
    refine eh_i2l (by decide +kernel) ?_
    refine eh_last ho so vp01 (by decide +kernel) ?_
    rw [cln0]
    refine eh_goto (off := 11) (tgt := 21) (by decide +kernel) rfl ?_
    refine eh_iconst (n := 0) (v := 0) (by decide +kernel) rfl ?_
    exact eh_iret (ty := .int) rfl rfl (by decide +kernel) (Or.inl ⟨_, _, z, rfl, rfl⟩)
  · obtain rfl | rfl := hE E h' z
    · refine ⟨13, ⟨[], ⟨0, 10, 13, 24⟩, [⟨0, 10, 17, 41⟩], "java/lang/IndexOutOfBoundsException", rfl, ?_, by decide, by decide, rfl, cl_24, by decide +kernel⟩, fun a => ?_⟩
      · exact fun y hy => absurd hy List.not_mem_nil
      · refine eh_astore (i := 4) (by decide +kernel) (by decide) ?_
        refine eh_iconst (n := 1) (v := 1) (by decide +kernel) rfl ?_
        exact eh_iret (ty := .int) rfl rfl (by decide +kernel) (Or.inr ⟨_, 1, _, by decide, z, rfl, rfl⟩)
    · refine ⟨17, ⟨[⟨0, 10, 13, 24⟩], ⟨0, 10, 17, 41⟩, [], "java/lang/IllegalStateException", rfl, ?_, by decide, by decide, rfl, cl_41, by decide +kernel⟩, fun a => ?_⟩
      · intro y hy
        simp only [List.mem_cons, List.not_mem_nil, or_false] at hy
        subst hy
        exact ⟨by decide, _, cl_24, by decide +kernel⟩
      · refine eh_astore (i := 4) (by decide +kernel) (by decide) ?_
        refine eh_iconst (n := 2) (v := 2) (by decide +kernel) rfl ?_
        exact eh_iret (ty := .int) rfl rfl (by decide +kernel) (Or.inr ⟨_, 2, _, by decide, z, rfl, rfl⟩)
def m_Lw_hoard : Mr := (⟨"GripEstatesLaw", "hoard", "(LGripEstates;IIZ[J)I"⟩, method_18_code, 6, (some FieldType.int), 2, 12, 8)
def hh_Lw_hoard : Hd := [(0, 12, 15, 24), (0, 12, 19, 13)]
def cs_Lw_hoard : List (String × Int32) := [("java/lang/IndexOutOfBoundsException", 1), ("java/lang/IllegalArgumentException", 2)]
theorem h_Lw_hoard {p0 p1 p2 : Int32} (hM : EvM G m_Gr_hoard (.ref x :: [.int p0, .int p1, .int p2]) h Q) (hx : (h.1 x).1 = 10) (ho : G.n0 ≤ out) (hv : ∀ v h', Q (.inl v) h' → h'.1 out = (104, 1) ∧ ∃ y, v = some (.int y)) (hE : ∀ E h', Q (.inr E) h' → E = "java/lang/IndexOutOfBoundsException" ∨ E = "java/lang/IllegalArgumentException") : EvMH G m_Lw_hoard hh_Lw_hoard [.ref x, .int p0, .int p1, .int p2, .ref out] h (hQ Q out cs_Lw_hoard) := by
  refine EvMH.of (by decide) (fun w hw => by simp only [List.mem_cons, List.not_mem_nil, or_false] at hw; rcases hw with rfl | rfl | rfl | rfl | rfl <;> rfl) (by show 5 ≤ 6; decide) ?_
  show EvH G m_Lw_hoard hh_Lw_hoard 0 [.ref x, .int p0, .int p1, .int p2, .ref out, un] [] h 0 0 _
  refine eh_aload (i := 4) (by decide +kernel) rfl ?_
  refine eh_iconst (n := 0) (v := 0) (by decide +kernel) rfl ?_
  refine eh_aloadn (i := 0) (j := 0) rfl (by decide +kernel) rfl ?_
  refine eh_iloadn (i := 1) (j := 1) rfl (by decide +kernel) rfl ?_
  refine eh_iloadn (i := 2) (j := 2) rfl (by decide +kernel) rfl ?_
  refine eh_iloadn (i := 3) (j := 3) rfl (by decide +kernel) rfl ?_
  show EvH G m_Lw_hoard hh_Lw_hoard 7 [.ref x, .int p0, .int p1, .int p2, .ref out, un] (([.int p0, .int p1, .int p2] : List Value).reverse ++ .ref x :: [.int 0, .ref out]) h 0 0 _
  refine eh_callV (q := m_Gr_hoard) (idx := 68) hM (wd_ok (k := 1316) (by decide +kernel)) (wd_ok (k := 1313) (by decide +kernel)) (wd_ok (k := 134) (by decide +kernel)) (wd_ok (k := 1314) (by decide +kernel)) (wd_ok (k := 1315) (by decide +kernel)) (by show plainB _ 3 = true; decide +kernel) (by decide) (by decide) (Or.inl ⟨9, 13, TX11, rfl, hx⟩) (by show 2 ≤ 8; decide) (by decide +kernel) (by decide) (by decide) (fun v h' z => ?_) (fun E h' z => ?_)
  · obtain ⟨so, y, rfl⟩ := hv v h' z
    show EvH G m_Lw_hoard hh_Lw_hoard 10 [.ref x, .int p0, .int p1, .int p2, .ref out, un] (.int y :: .int 0 :: .ref out :: []) h' _ _ _
    refine eh_i2l (by decide +kernel) ?_
    refine eh_last ho so vp01 (by decide +kernel) ?_
    rw [cln0]
    refine eh_goto (off := 11) (tgt := 23) (by decide +kernel) rfl ?_
    refine eh_iconst (n := 0) (v := 0) (by decide +kernel) rfl ?_
    exact eh_iret (ty := .int) rfl rfl (by decide +kernel) (Or.inl ⟨_, _, z, rfl, rfl⟩)
  · obtain rfl | rfl := hE E h' z
    · refine ⟨15, ⟨[], ⟨0, 12, 15, 24⟩, [⟨0, 12, 19, 13⟩], "java/lang/IndexOutOfBoundsException", rfl, ?_, by decide, by decide, rfl, cl_24, by decide +kernel⟩, fun a => ?_⟩
      · exact fun y hy => absurd hy List.not_mem_nil
      · refine eh_astore (i := 5) (by decide +kernel) (by decide) ?_
        refine eh_iconst (n := 1) (v := 1) (by decide +kernel) rfl ?_
        exact eh_iret (ty := .int) rfl rfl (by decide +kernel) (Or.inr ⟨_, 1, _, by decide, z, rfl, rfl⟩)
    · refine ⟨19, ⟨[⟨0, 12, 15, 24⟩], ⟨0, 12, 19, 13⟩, [], "java/lang/IllegalArgumentException", rfl, ?_, by decide, by decide, rfl, cl_13, by decide +kernel⟩, fun a => ?_⟩
      · intro y hy
        simp only [List.mem_cons, List.not_mem_nil, or_false] at hy
        subst hy
        exact ⟨by decide, _, cl_24, by decide +kernel⟩
      · refine eh_astore (i := 5) (by decide +kernel) (by decide) ?_
        refine eh_iconst (n := 2) (v := 2) (by decide +kernel) rfl ?_
        exact eh_iret (ty := .int) rfl rfl (by decide +kernel) (Or.inr ⟨_, 2, _, by decide, z, rfl, rfl⟩)
def m_Lw_put : Mr := (⟨"GripEstatesLaw", "put", "(LGripEstates;I[J)I"⟩, method_19_code, 4, (some FieldType.int), 1, 6, 8)
def hh_Lw_put : Hd := [(0, 9, 12, 24)]
def cs_Lw_put : List (String × Int32) := [("java/lang/IndexOutOfBoundsException", 1)]
theorem h_Lw_put {p0 : Int32} (hM : EvM G m_Gr_put (.ref x :: [.int p0]) h Q) (hx : (h.1 x).1 = 10) (ho : G.n0 ≤ out) (hv : ∀ v h', Q (.inl v) h' → h'.1 out = (104, 1) ∧ ∃ y, v = some (.int y)) (hE : ∀ E h', Q (.inr E) h' → E = "java/lang/IndexOutOfBoundsException") : EvMH G m_Lw_put hh_Lw_put [.ref x, .int p0, .ref out] h (hQ Q out cs_Lw_put) := by
  refine EvMH.of (by decide) (fun w hw => by simp only [List.mem_cons, List.not_mem_nil, or_false] at hw; rcases hw with rfl | rfl | rfl <;> rfl) (by show 3 ≤ 4; decide) ?_
  show EvH G m_Lw_put hh_Lw_put 0 [.ref x, .int p0, .ref out, un] [] h 0 0 _
  refine eh_aloadn (i := 2) (j := 2) rfl (by decide +kernel) rfl ?_
  refine eh_iconst (n := 0) (v := 0) (by decide +kernel) rfl ?_
  refine eh_aloadn (i := 0) (j := 0) rfl (by decide +kernel) rfl ?_
  refine eh_iloadn (i := 1) (j := 1) rfl (by decide +kernel) rfl ?_
  show EvH G m_Lw_put hh_Lw_put 4 [.ref x, .int p0, .ref out, un] (([.int p0] : List Value).reverse ++ .ref x :: [.int 0, .ref out]) h 0 0 _
  refine eh_callV (q := m_Gr_put) (idx := 72) hM (wd_ok (k := 1329) (by decide +kernel)) (wd_ok (k := 1326) (by decide +kernel)) (wd_ok (k := 134) (by decide +kernel)) (wd_ok (k := 1327) (by decide +kernel)) (wd_ok (k := 1328) (by decide +kernel)) (by show plainB _ 1 = true; decide +kernel) (by decide) (by decide) (Or.inl ⟨9, 13, TX11, rfl, hx⟩) (by show 2 ≤ 8; decide) (by decide +kernel) (by decide) (by decide) (fun v h' z => ?_) (fun E h' z => ?_)
  · obtain ⟨so, y, rfl⟩ := hv v h' z
    show EvH G m_Lw_put hh_Lw_put 7 [.ref x, .int p0, .ref out, un] (.int y :: .int 0 :: .ref out :: []) h' _ _ _
    refine eh_i2l (by decide +kernel) ?_
    refine eh_last ho so vp01 (by decide +kernel) ?_
    rw [cln0]
    refine eh_goto (off := 6) (tgt := 15) (by decide +kernel) rfl ?_
    refine eh_iconst (n := 0) (v := 0) (by decide +kernel) rfl ?_
    exact eh_iret (ty := .int) rfl rfl (by decide +kernel) (Or.inl ⟨_, _, z, rfl, rfl⟩)
  · obtain rfl := hE E h' z
    refine ⟨12, ⟨[], ⟨0, 9, 12, 24⟩, [], "java/lang/IndexOutOfBoundsException", rfl, ?_, by decide, by decide, rfl, cl_24, by decide +kernel⟩, fun a => ?_⟩
    · exact fun y hy => absurd hy List.not_mem_nil
    · refine eh_astoren (i := 3) (j := 3) rfl (by decide +kernel) (by decide) ?_
      refine eh_iconst (n := 1) (v := 1) (by decide +kernel) rfl ?_
      exact eh_iret (ty := .int) rfl rfl (by decide +kernel) (Or.inr ⟨_, 1, _, by decide, z, rfl, rfl⟩)
def m_Lw_held : Mr := (⟨"GripEstatesLaw", "held", "(LGripEstates;[J)I"⟩, method_20_code, 3, (some FieldType.int), 1, 6, 8)
def hh_Lw_held : Hd := [(0, 8, 11, 13)]
def cs_Lw_held : List (String × Int32) := [("java/lang/IllegalArgumentException", 1)]
theorem h_Lw_held (hM : EvM G m_Gr_held (.ref x :: []) h Q) (hx : (h.1 x).1 = 10) (ho : G.n0 ≤ out) (hv : ∀ v h', Q (.inl v) h' → h'.1 out = (104, 1) ∧ ∃ y, v = some (.int y)) (hE : ∀ E h', Q (.inr E) h' → E = "java/lang/IllegalArgumentException") : EvMH G m_Lw_held hh_Lw_held [.ref x, .ref out] h (hQ Q out cs_Lw_held) := by
  refine EvMH.of (by decide) (fun w hw => by simp only [List.mem_cons, List.not_mem_nil, or_false] at hw; rcases hw with rfl | rfl <;> rfl) (by show 2 ≤ 3; decide) ?_
  show EvH G m_Lw_held hh_Lw_held 0 [.ref x, .ref out, un] [] h 0 0 _
  refine eh_aloadn (i := 1) (j := 1) rfl (by decide +kernel) rfl ?_
  refine eh_iconst (n := 0) (v := 0) (by decide +kernel) rfl ?_
  refine eh_aloadn (i := 0) (j := 0) rfl (by decide +kernel) rfl ?_
  show EvH G m_Lw_held hh_Lw_held 3 [.ref x, .ref out, un] (([] : List Value).reverse ++ .ref x :: [.int 0, .ref out]) h 0 0 _
  refine eh_callV (q := m_Gr_held) (idx := 75) hM (wd_ok (k := 1361) (by decide +kernel)) (wd_ok (k := 1358) (by decide +kernel)) (wd_ok (k := 134) (by decide +kernel)) (wd_ok (k := 1359) (by decide +kernel)) (wd_ok (k := 1360) (by decide +kernel)) (by show plainB _ 0 = true; decide +kernel) (by decide) (by decide) (Or.inl ⟨9, 13, TX11, rfl, hx⟩) (by show 2 ≤ 8; decide) (by decide +kernel) (by decide) (by decide) (fun v h' z => ?_) (fun E h' z => ?_)
  · obtain ⟨so, y, rfl⟩ := hv v h' z
    show EvH G m_Lw_held hh_Lw_held 6 [.ref x, .ref out, un] (.int y :: .int 0 :: .ref out :: []) h' _ _ _
    refine eh_i2l (by decide +kernel) ?_
    refine eh_last ho so vp01 (by decide +kernel) ?_
    rw [cln0]
    refine eh_goto (off := 6) (tgt := 14) (by decide +kernel) rfl ?_
    refine eh_iconst (n := 0) (v := 0) (by decide +kernel) rfl ?_
    exact eh_iret (ty := .int) rfl rfl (by decide +kernel) (Or.inl ⟨_, _, z, rfl, rfl⟩)
  · obtain rfl := hE E h' z
    refine ⟨11, ⟨[], ⟨0, 8, 11, 13⟩, [], "java/lang/IllegalArgumentException", rfl, ?_, by decide, by decide, rfl, cl_13, by decide +kernel⟩, fun a => ?_⟩
    · exact fun y hy => absurd hy List.not_mem_nil
    · refine eh_astoren (i := 2) (j := 2) rfl (by decide +kernel) (by decide) ?_
      refine eh_iconst (n := 1) (v := 1) (by decide +kernel) rfl ?_
      exact eh_iret (ty := .int) rfl rfl (by decide +kernel) (Or.inr ⟨_, 1, _, by decide, z, rfl, rfl⟩)
def m_Lw_likely : Mr := (⟨"GripEstatesLaw", "likely", "(LGripEstates;[J)I"⟩, method_21_code, 3, (some FieldType.int), 1, 6, 8)
def hh_Lw_likely : Hd := [(0, 8, 11, 13)]
def cs_Lw_likely : List (String × Int32) := [("java/lang/IllegalArgumentException", 1)]
theorem h_Lw_likely (hM : EvM G m_Gr_likely (.ref x :: []) h Q) (hx : (h.1 x).1 = 10) (ho : G.n0 ≤ out) (hv : ∀ v h', Q (.inl v) h' → h'.1 out = (104, 1) ∧ ∃ y, v = some (.int y)) (hE : ∀ E h', Q (.inr E) h' → E = "java/lang/IllegalArgumentException") : EvMH G m_Lw_likely hh_Lw_likely [.ref x, .ref out] h (hQ Q out cs_Lw_likely) := by
  refine EvMH.of (by decide) (fun w hw => by simp only [List.mem_cons, List.not_mem_nil, or_false] at hw; rcases hw with rfl | rfl <;> rfl) (by show 2 ≤ 3; decide) ?_
  show EvH G m_Lw_likely hh_Lw_likely 0 [.ref x, .ref out, un] [] h 0 0 _
  refine eh_aloadn (i := 1) (j := 1) rfl (by decide +kernel) rfl ?_
  refine eh_iconst (n := 0) (v := 0) (by decide +kernel) rfl ?_
  refine eh_aloadn (i := 0) (j := 0) rfl (by decide +kernel) rfl ?_
  show EvH G m_Lw_likely hh_Lw_likely 3 [.ref x, .ref out, un] (([] : List Value).reverse ++ .ref x :: [.int 0, .ref out]) h 0 0 _
  refine eh_callV (q := m_Gr_likely) (idx := 78) hM (wd_ok (k := 1384) (by decide +kernel)) (wd_ok (k := 1381) (by decide +kernel)) (wd_ok (k := 134) (by decide +kernel)) (wd_ok (k := 1382) (by decide +kernel)) (wd_ok (k := 1383) (by decide +kernel)) (by show plainB _ 0 = true; decide +kernel) (by decide) (by decide) (Or.inl ⟨9, 13, TX11, rfl, hx⟩) (by show 2 ≤ 8; decide) (by decide +kernel) (by decide) (by decide) (fun v h' z => ?_) (fun E h' z => ?_)
  · obtain ⟨so, y, rfl⟩ := hv v h' z
    show EvH G m_Lw_likely hh_Lw_likely 6 [.ref x, .ref out, un] (.int y :: .int 0 :: .ref out :: []) h' _ _ _
    refine eh_i2l (by decide +kernel) ?_
    refine eh_last ho so vp01 (by decide +kernel) ?_
    rw [cln0]
    refine eh_goto (off := 6) (tgt := 14) (by decide +kernel) rfl ?_
    refine eh_iconst (n := 0) (v := 0) (by decide +kernel) rfl ?_
    exact eh_iret (ty := .int) rfl rfl (by decide +kernel) (Or.inl ⟨_, _, z, rfl, rfl⟩)
  · obtain rfl := hE E h' z
    refine ⟨11, ⟨[], ⟨0, 8, 11, 13⟩, [], "java/lang/IllegalArgumentException", rfl, ?_, by decide, by decide, rfl, cl_13, by decide +kernel⟩, fun a => ?_⟩
    · exact fun y hy => absurd hy List.not_mem_nil
    · refine eh_astoren (i := 2) (j := 2) rfl (by decide +kernel) (by decide) ?_
      refine eh_iconst (n := 1) (v := 1) (by decide +kernel) rfl ?_
      exact eh_iret (ty := .int) rfl rfl (by decide +kernel) (Or.inr ⟨_, 1, _, by decide, z, rfl, rfl⟩)
def m_Lw_ask : Mr := (⟨"GripEstatesLaw", "ask", "(LGripEstates;[J)I"⟩, method_22_code, 3, (some FieldType.int), 1, 6, 8)
def hh_Lw_ask : Hd := [(0, 8, 11, 13)]
def cs_Lw_ask : List (String × Int32) := [("java/lang/IllegalArgumentException", 1)]
theorem h_Lw_ask (hM : EvM G m_Gr_ask (.ref x :: []) h Q) (hx : (h.1 x).1 = 10) (ho : G.n0 ≤ out) (hv : ∀ v h', Q (.inl v) h' → h'.1 out = (104, 1) ∧ ∃ y, v = some (.int y)) (hE : ∀ E h', Q (.inr E) h' → E = "java/lang/IllegalArgumentException") : EvMH G m_Lw_ask hh_Lw_ask [.ref x, .ref out] h (hQ Q out cs_Lw_ask) := by
  refine EvMH.of (by decide) (fun w hw => by simp only [List.mem_cons, List.not_mem_nil, or_false] at hw; rcases hw with rfl | rfl <;> rfl) (by show 2 ≤ 3; decide) ?_
  show EvH G m_Lw_ask hh_Lw_ask 0 [.ref x, .ref out, un] [] h 0 0 _
  refine eh_aloadn (i := 1) (j := 1) rfl (by decide +kernel) rfl ?_
  refine eh_iconst (n := 0) (v := 0) (by decide +kernel) rfl ?_
  refine eh_aloadn (i := 0) (j := 0) rfl (by decide +kernel) rfl ?_
  show EvH G m_Lw_ask hh_Lw_ask 3 [.ref x, .ref out, un] (([] : List Value).reverse ++ .ref x :: [.int 0, .ref out]) h 0 0 _
  refine eh_callV (q := m_Gr_ask) (idx := 81) hM (wd_ok (k := 1394) (by decide +kernel)) (wd_ok (k := 1391) (by decide +kernel)) (wd_ok (k := 134) (by decide +kernel)) (wd_ok (k := 1392) (by decide +kernel)) (wd_ok (k := 1393) (by decide +kernel)) (by show plainB _ 0 = true; decide +kernel) (by decide) (by decide) (Or.inl ⟨9, 13, TX11, rfl, hx⟩) (by show 2 ≤ 8; decide) (by decide +kernel) (by decide) (by decide) (fun v h' z => ?_) (fun E h' z => ?_)
  · obtain ⟨so, y, rfl⟩ := hv v h' z
    show EvH G m_Lw_ask hh_Lw_ask 6 [.ref x, .ref out, un] (.int y :: .int 0 :: .ref out :: []) h' _ _ _
    refine eh_i2l (by decide +kernel) ?_
    refine eh_last ho so vp01 (by decide +kernel) ?_
    rw [cln0]
    refine eh_goto (off := 6) (tgt := 14) (by decide +kernel) rfl ?_
    refine eh_iconst (n := 0) (v := 0) (by decide +kernel) rfl ?_
    exact eh_iret (ty := .int) rfl rfl (by decide +kernel) (Or.inl ⟨_, _, z, rfl, rfl⟩)
  · obtain rfl := hE E h' z
    refine ⟨11, ⟨[], ⟨0, 8, 11, 13⟩, [], "java/lang/IllegalArgumentException", rfl, ?_, by decide, by decide, rfl, cl_13, by decide +kernel⟩, fun a => ?_⟩
    · exact fun y hy => absurd hy List.not_mem_nil
    · refine eh_astoren (i := 2) (j := 2) rfl (by decide +kernel) (by decide) ?_
      refine eh_iconst (n := 1) (v := 1) (by decide +kernel) rfl ?_
      exact eh_iret (ty := .int) rfl rfl (by decide +kernel) (Or.inr ⟨_, 1, _, by decide, z, rfl, rfl⟩)
def m_Lw_strong : Mr := (⟨"GripEstatesLaw", "strong", "(LGripEstates;Z[J)I"⟩, method_23_code, 4, (some FieldType.int), 1, 6, 8)
def hh_Lw_strong : Hd := [(0, 9, 12, 13)]
def cs_Lw_strong : List (String × Int32) := [("java/lang/IllegalArgumentException", 1)]
theorem h_Lw_strong {p0 : Int32} (hM : EvM G m_Gr_strong (.ref x :: [.int p0]) h Q) (hx : (h.1 x).1 = 10) (ho : G.n0 ≤ out) (hv : ∀ v h', Q (.inl v) h' → h'.1 out = (104, 1) ∧ ∃ y, v = some (.int y)) (hE : ∀ E h', Q (.inr E) h' → E = "java/lang/IllegalArgumentException") : EvMH G m_Lw_strong hh_Lw_strong [.ref x, .int p0, .ref out] h (hQ Q out cs_Lw_strong) := by
  refine EvMH.of (by decide) (fun w hw => by simp only [List.mem_cons, List.not_mem_nil, or_false] at hw; rcases hw with rfl | rfl | rfl <;> rfl) (by show 3 ≤ 4; decide) ?_
  show EvH G m_Lw_strong hh_Lw_strong 0 [.ref x, .int p0, .ref out, un] [] h 0 0 _
  refine eh_aloadn (i := 2) (j := 2) rfl (by decide +kernel) rfl ?_
  refine eh_iconst (n := 0) (v := 0) (by decide +kernel) rfl ?_
  refine eh_aloadn (i := 0) (j := 0) rfl (by decide +kernel) rfl ?_
  refine eh_iloadn (i := 1) (j := 1) rfl (by decide +kernel) rfl ?_
  show EvH G m_Lw_strong hh_Lw_strong 4 [.ref x, .int p0, .ref out, un] (([.int p0] : List Value).reverse ++ .ref x :: [.int 0, .ref out]) h 0 0 _
  refine eh_callV (q := m_Gr_strong) (idx := 84) hM (wd_ok (k := 1409) (by decide +kernel)) (wd_ok (k := 1406) (by decide +kernel)) (wd_ok (k := 134) (by decide +kernel)) (wd_ok (k := 1407) (by decide +kernel)) (wd_ok (k := 1408) (by decide +kernel)) (by show plainB _ 1 = true; decide +kernel) (by decide) (by decide) (Or.inl ⟨9, 13, TX11, rfl, hx⟩) (by show 2 ≤ 8; decide) (by decide +kernel) (by decide) (by decide) (fun v h' z => ?_) (fun E h' z => ?_)
  · obtain ⟨so, y, rfl⟩ := hv v h' z
    show EvH G m_Lw_strong hh_Lw_strong 7 [.ref x, .int p0, .ref out, un] (.int y :: .int 0 :: .ref out :: []) h' _ _ _
    refine eh_i2l (by decide +kernel) ?_
    refine eh_last ho so vp01 (by decide +kernel) ?_
    rw [cln0]
    refine eh_goto (off := 6) (tgt := 15) (by decide +kernel) rfl ?_
    refine eh_iconst (n := 0) (v := 0) (by decide +kernel) rfl ?_
    exact eh_iret (ty := .int) rfl rfl (by decide +kernel) (Or.inl ⟨_, _, z, rfl, rfl⟩)
  · obtain rfl := hE E h' z
    refine ⟨12, ⟨[], ⟨0, 9, 12, 13⟩, [], "java/lang/IllegalArgumentException", rfl, ?_, by decide, by decide, rfl, cl_13, by decide +kernel⟩, fun a => ?_⟩
    · exact fun y hy => absurd hy List.not_mem_nil
    · refine eh_astoren (i := 3) (j := 3) rfl (by decide +kernel) (by decide) ?_
      refine eh_iconst (n := 1) (v := 1) (by decide +kernel) rfl ?_
      exact eh_iret (ty := .int) rfl rfl (by decide +kernel) (Or.inr ⟨_, 1, _, by decide, z, rfl, rfl⟩)
def m_Lw_test : Mr := (⟨"GripEstatesLaw", "test", "(LGripEstates;[J)I"⟩, method_24_code, 3, (some FieldType.int), 1, 6, 8)
def hh_Lw_test : Hd := [(0, 8, 11, 13)]
def cs_Lw_test : List (String × Int32) := [("java/lang/IllegalArgumentException", 1)]
theorem h_Lw_test (hM : EvM G m_Gr_test (.ref x :: []) h Q) (hx : (h.1 x).1 = 10) (ho : G.n0 ≤ out) (hv : ∀ v h', Q (.inl v) h' → h'.1 out = (104, 1) ∧ ∃ y, v = some (.int y)) (hE : ∀ E h', Q (.inr E) h' → E = "java/lang/IllegalArgumentException") : EvMH G m_Lw_test hh_Lw_test [.ref x, .ref out] h (hQ Q out cs_Lw_test) := by
  refine EvMH.of (by decide) (fun w hw => by simp only [List.mem_cons, List.not_mem_nil, or_false] at hw; rcases hw with rfl | rfl <;> rfl) (by show 2 ≤ 3; decide) ?_
  show EvH G m_Lw_test hh_Lw_test 0 [.ref x, .ref out, un] [] h 0 0 _
  refine eh_aloadn (i := 1) (j := 1) rfl (by decide +kernel) rfl ?_
  refine eh_iconst (n := 0) (v := 0) (by decide +kernel) rfl ?_
  refine eh_aloadn (i := 0) (j := 0) rfl (by decide +kernel) rfl ?_
  show EvH G m_Lw_test hh_Lw_test 3 [.ref x, .ref out, un] (([] : List Value).reverse ++ .ref x :: [.int 0, .ref out]) h 0 0 _
  refine eh_callV (q := m_Gr_test) (idx := 88) hM (wd_ok (k := 1428) (by decide +kernel)) (wd_ok (k := 1425) (by decide +kernel)) (wd_ok (k := 134) (by decide +kernel)) (wd_ok (k := 1426) (by decide +kernel)) (wd_ok (k := 1427) (by decide +kernel)) (by show plainB _ 0 = true; decide +kernel) (by decide) (by decide) (Or.inl ⟨9, 13, TX11, rfl, hx⟩) (by show 2 ≤ 8; decide) (by decide +kernel) (by decide) (by decide) (fun v h' z => ?_) (fun E h' z => ?_)
  · obtain ⟨so, y, rfl⟩ := hv v h' z
    show EvH G m_Lw_test hh_Lw_test 6 [.ref x, .ref out, un] (.int y :: .int 0 :: .ref out :: []) h' _ _ _
    refine eh_i2l (by decide +kernel) ?_
    refine eh_last ho so vp01 (by decide +kernel) ?_
    rw [cln0]
    refine eh_goto (off := 6) (tgt := 14) (by decide +kernel) rfl ?_
    refine eh_iconst (n := 0) (v := 0) (by decide +kernel) rfl ?_
    exact eh_iret (ty := .int) rfl rfl (by decide +kernel) (Or.inl ⟨_, _, z, rfl, rfl⟩)
  · obtain rfl := hE E h' z
    refine ⟨11, ⟨[], ⟨0, 8, 11, 13⟩, [], "java/lang/IllegalArgumentException", rfl, ?_, by decide, by decide, rfl, cl_13, by decide +kernel⟩, fun a => ?_⟩
    · exact fun y hy => absurd hy List.not_mem_nil
    · refine eh_astoren (i := 2) (j := 2) rfl (by decide +kernel) (by decide) ?_
      refine eh_iconst (n := 1) (v := 1) (by decide +kernel) rfl ?_
      exact eh_iret (ty := .int) rfl rfl (by decide +kernel) (Or.inr ⟨_, 1, _, by decide, z, rfl, rfl⟩)
def m_Lw_fingers : Mr := (⟨"GripEstatesLaw", "fingers", "(LGripEstates;I[J)I"⟩, method_25_code, 4, (some FieldType.int), 1, 6, 8)
def hh_Lw_fingers : Hd := [(0, 16, 19, 13)]
def cs_Lw_fingers : List (String × Int32) := [("java/lang/IllegalArgumentException", 1)]
theorem h_Lw_fingers {p0 : Int32} (hM : EvM G m_Gr_fingers (.ref x :: [.int p0]) h Q) (hx : (h.1 x).1 = 10) (ho : G.n0 ≤ out) (hv : ∀ v h', Q (.inl v) h' → h'.1 out = (104, 1) ∧ ∃ y, v = some (.int y) ∧ (y = 0 ∨ y = 1)) (hE : ∀ E h', Q (.inr E) h' → E = "java/lang/IllegalArgumentException") : EvMH G m_Lw_fingers hh_Lw_fingers [.ref x, .int p0, .ref out] h (hQ Q out cs_Lw_fingers) := by
  refine EvMH.of (by decide) (fun w hw => by simp only [List.mem_cons, List.not_mem_nil, or_false] at hw; rcases hw with rfl | rfl | rfl <;> rfl) (by show 3 ≤ 4; decide) ?_
  show EvH G m_Lw_fingers hh_Lw_fingers 0 [.ref x, .int p0, .ref out, un] [] h 0 0 _
  refine eh_aloadn (i := 2) (j := 2) rfl (by decide +kernel) rfl ?_
  refine eh_iconst (n := 0) (v := 0) (by decide +kernel) rfl ?_
  refine eh_aloadn (i := 0) (j := 0) rfl (by decide +kernel) rfl ?_
  refine eh_iloadn (i := 1) (j := 1) rfl (by decide +kernel) rfl ?_
  show EvH G m_Lw_fingers hh_Lw_fingers 4 [.ref x, .int p0, .ref out, un] (([.int p0] : List Value).reverse ++ .ref x :: [.int 0, .ref out]) h 0 0 _
  refine eh_callV (q := m_Gr_fingers) (idx := 91) hM (wd_ok (k := 1438) (by decide +kernel)) (wd_ok (k := 1435) (by decide +kernel)) (wd_ok (k := 134) (by decide +kernel)) (wd_ok (k := 1436) (by decide +kernel)) (wd_ok (k := 1437) (by decide +kernel)) (by show plainB _ 1 = true; decide +kernel) (by decide) (by decide) (Or.inl ⟨9, 13, TX11, rfl, hx⟩) (by show 2 ≤ 8; decide) (by decide +kernel) (by decide) (by decide) (fun v h' z => ?_) (fun E h' z => ?_)
  · obtain ⟨so, y, rfl, yb⟩ := hv v h' z
    show EvH G m_Lw_fingers hh_Lw_fingers 7 [.ref x, .int p0, .ref out, un] (.int y :: .int 0 :: .ref out :: []) h' _ _ _
    refine eh_if_eq (off := 7) (tgt := 14) (by decide +kernel) rfl (fun y0 => ?_) (fun y1 => ?_)
    · subst y0
      refine eh_lconst (n := 0) (v := 0) (by decide +kernel) rfl ?_
      refine eh_last ho so vp01 (by decide +kernel) ?_
      rw [cln0]
      refine eh_goto (off := 6) (tgt := 22) (by decide +kernel) rfl ?_
      refine eh_iconst (n := 0) (v := 0) (by decide +kernel) rfl ?_
      exact eh_iret (ty := .int) rfl rfl (by decide +kernel) (Or.inl ⟨_, _, z, rfl, rfl⟩)
    · obtain rfl : y = 1 := yb.resolve_left y1
      refine eh_lconst (n := 1) (v := 1) (by decide +kernel) rfl ?_
      refine eh_goto (off := 4) (tgt := 15) (by decide +kernel) rfl ?_
      refine eh_last ho so vp01 (by decide +kernel) ?_
      rw [cln0]
      refine eh_goto (off := 6) (tgt := 22) (by decide +kernel) rfl ?_
      refine eh_iconst (n := 0) (v := 0) (by decide +kernel) rfl ?_
      exact eh_iret (ty := .int) rfl rfl (by decide +kernel) (Or.inl ⟨_, _, z, rfl, rfl⟩)
  · obtain rfl := hE E h' z
    refine ⟨19, ⟨[], ⟨0, 16, 19, 13⟩, [], "java/lang/IllegalArgumentException", rfl, ?_, by decide, by decide, rfl, cl_13, by decide +kernel⟩, fun a => ?_⟩
    · exact fun y hy => absurd hy List.not_mem_nil
    · refine eh_astoren (i := 3) (j := 3) rfl (by decide +kernel) (by decide) ?_
      refine eh_iconst (n := 1) (v := 1) (by decide +kernel) rfl ?_
      exact eh_iret (ty := .int) rfl rfl (by decide +kernel) (Or.inr ⟨_, 1, _, by decide, z, rfl, rfl⟩)
def m_Lw_opens : Mr := (⟨"GripEstatesLaw", "opens", "(LGripEstates;I[J)I"⟩, method_26_code, 4, (some FieldType.int), 1, 6, 8)
def hh_Lw_opens : Hd := [(0, 9, 12, 13)]
def cs_Lw_opens : List (String × Int32) := [("java/lang/IllegalArgumentException", 1)]
theorem h_Lw_opens {p0 : Int32} (hM : EvM G m_Gr_opens (.ref x :: [.int p0]) h Q) (hx : (h.1 x).1 = 10) (ho : G.n0 ≤ out) (hv : ∀ v h', Q (.inl v) h' → h'.1 out = (104, 1) ∧ ∃ y, v = some (.int y)) (hE : ∀ E h', Q (.inr E) h' → E = "java/lang/IllegalArgumentException") : EvMH G m_Lw_opens hh_Lw_opens [.ref x, .int p0, .ref out] h (hQ Q out cs_Lw_opens) := by
  refine EvMH.of (by decide) (fun w hw => by simp only [List.mem_cons, List.not_mem_nil, or_false] at hw; rcases hw with rfl | rfl | rfl <;> rfl) (by show 3 ≤ 4; decide) ?_
  show EvH G m_Lw_opens hh_Lw_opens 0 [.ref x, .int p0, .ref out, un] [] h 0 0 _
  refine eh_aloadn (i := 2) (j := 2) rfl (by decide +kernel) rfl ?_
  refine eh_iconst (n := 0) (v := 0) (by decide +kernel) rfl ?_
  refine eh_aloadn (i := 0) (j := 0) rfl (by decide +kernel) rfl ?_
  refine eh_iloadn (i := 1) (j := 1) rfl (by decide +kernel) rfl ?_
  show EvH G m_Lw_opens hh_Lw_opens 4 [.ref x, .int p0, .ref out, un] (([.int p0] : List Value).reverse ++ .ref x :: [.int 0, .ref out]) h 0 0 _
  refine eh_callV (q := m_Gr_opens) (idx := 95) hM (wd_ok (k := 1452) (by decide +kernel)) (wd_ok (k := 1449) (by decide +kernel)) (wd_ok (k := 134) (by decide +kernel)) (wd_ok (k := 1450) (by decide +kernel)) (wd_ok (k := 1451) (by decide +kernel)) (by show plainB _ 1 = true; decide +kernel) (by decide) (by decide) (Or.inl ⟨9, 13, TX11, rfl, hx⟩) (by show 2 ≤ 8; decide) (by decide +kernel) (by decide) (by decide) (fun v h' z => ?_) (fun E h' z => ?_)
  · obtain ⟨so, y, rfl⟩ := hv v h' z
    show EvH G m_Lw_opens hh_Lw_opens 7 [.ref x, .int p0, .ref out, un] (.int y :: .int 0 :: .ref out :: []) h' _ _ _
    refine eh_i2l (by decide +kernel) ?_
    refine eh_last ho so vp01 (by decide +kernel) ?_
    rw [cln0]
    refine eh_goto (off := 6) (tgt := 15) (by decide +kernel) rfl ?_
    refine eh_iconst (n := 0) (v := 0) (by decide +kernel) rfl ?_
    exact eh_iret (ty := .int) rfl rfl (by decide +kernel) (Or.inl ⟨_, _, z, rfl, rfl⟩)
  · obtain rfl := hE E h' z
    refine ⟨12, ⟨[], ⟨0, 9, 12, 13⟩, [], "java/lang/IllegalArgumentException", rfl, ?_, by decide, by decide, rfl, cl_13, by decide +kernel⟩, fun a => ?_⟩
    · exact fun y hy => absurd hy List.not_mem_nil
    · refine eh_astoren (i := 3) (j := 3) rfl (by decide +kernel) (by decide) ?_
      refine eh_iconst (n := 1) (v := 1) (by decide +kernel) rfl ?_
      exact eh_iret (ty := .int) rfl rfl (by decide +kernel) (Or.inr ⟨_, 1, _, by decide, z, rfl, rfl⟩)
def m_Lw_pairs : Mr := (⟨"GripEstatesLaw", "pairs", "(LGripEstates;I[J)I"⟩, method_27_code, 4, (some FieldType.int), 1, 6, 8)
def hh_Lw_pairs : Hd := [(0, 9, 12, 24)]
def cs_Lw_pairs : List (String × Int32) := [("java/lang/IndexOutOfBoundsException", 1)]
theorem h_Lw_pairs {p0 : Int32} (hM : EvM G m_Gr_pairs (.ref x :: [.int p0]) h Q) (hx : (h.1 x).1 = 10) (ho : G.n0 ≤ out) (hv : ∀ v h', Q (.inl v) h' → h'.1 out = (104, 1) ∧ ∃ y, v = some (.int y)) (hE : ∀ E h', Q (.inr E) h' → E = "java/lang/IndexOutOfBoundsException") : EvMH G m_Lw_pairs hh_Lw_pairs [.ref x, .int p0, .ref out] h (hQ Q out cs_Lw_pairs) := by
  refine EvMH.of (by decide) (fun w hw => by simp only [List.mem_cons, List.not_mem_nil, or_false] at hw; rcases hw with rfl | rfl | rfl <;> rfl) (by show 3 ≤ 4; decide) ?_
  show EvH G m_Lw_pairs hh_Lw_pairs 0 [.ref x, .int p0, .ref out, un] [] h 0 0 _
  refine eh_aloadn (i := 2) (j := 2) rfl (by decide +kernel) rfl ?_
  refine eh_iconst (n := 0) (v := 0) (by decide +kernel) rfl ?_
  refine eh_aloadn (i := 0) (j := 0) rfl (by decide +kernel) rfl ?_
  refine eh_iloadn (i := 1) (j := 1) rfl (by decide +kernel) rfl ?_
  show EvH G m_Lw_pairs hh_Lw_pairs 4 [.ref x, .int p0, .ref out, un] (([.int p0] : List Value).reverse ++ .ref x :: [.int 0, .ref out]) h 0 0 _
  refine eh_callV (q := m_Gr_pairs) (idx := 98) hM (wd_ok (k := 1459) (by decide +kernel)) (wd_ok (k := 1456) (by decide +kernel)) (wd_ok (k := 134) (by decide +kernel)) (wd_ok (k := 1457) (by decide +kernel)) (wd_ok (k := 1458) (by decide +kernel)) (by show plainB _ 1 = true; decide +kernel) (by decide) (by decide) (Or.inl ⟨9, 13, TX11, rfl, hx⟩) (by show 2 ≤ 8; decide) (by decide +kernel) (by decide) (by decide) (fun v h' z => ?_) (fun E h' z => ?_)
  · obtain ⟨so, y, rfl⟩ := hv v h' z
    show EvH G m_Lw_pairs hh_Lw_pairs 7 [.ref x, .int p0, .ref out, un] (.int y :: .int 0 :: .ref out :: []) h' _ _ _
    refine eh_i2l (by decide +kernel) ?_
    refine eh_last ho so vp01 (by decide +kernel) ?_
    rw [cln0]
    refine eh_goto (off := 6) (tgt := 15) (by decide +kernel) rfl ?_
    refine eh_iconst (n := 0) (v := 0) (by decide +kernel) rfl ?_
    exact eh_iret (ty := .int) rfl rfl (by decide +kernel) (Or.inl ⟨_, _, z, rfl, rfl⟩)
  · obtain rfl := hE E h' z
    refine ⟨12, ⟨[], ⟨0, 9, 12, 24⟩, [], "java/lang/IndexOutOfBoundsException", rfl, ?_, by decide, by decide, rfl, cl_24, by decide +kernel⟩, fun a => ?_⟩
    · exact fun y hy => absurd hy List.not_mem_nil
    · refine eh_astoren (i := 3) (j := 3) rfl (by decide +kernel) (by decide) ?_
      refine eh_iconst (n := 1) (v := 1) (by decide +kernel) rfl ?_
      exact eh_iret (ty := .int) rfl rfl (by decide +kernel) (Or.inr ⟨_, 1, _, by decide, z, rfl, rfl⟩)
def m_Lw_rests : Mr := (⟨"GripEstatesLaw", "rests", "(LGripEstates;I[J)I"⟩, method_28_code, 4, (some FieldType.int), 1, 6, 8)
def hh_Lw_rests : Hd := [(0, 9, 12, 24)]
def cs_Lw_rests : List (String × Int32) := [("java/lang/IndexOutOfBoundsException", 1)]
theorem h_Lw_rests {p0 : Int32} (hM : EvM G m_Gr_rests (.ref x :: [.int p0]) h Q) (hx : (h.1 x).1 = 10) (ho : G.n0 ≤ out) (hv : ∀ v h', Q (.inl v) h' → h'.1 out = (104, 1) ∧ ∃ y, v = some (.int y)) (hE : ∀ E h', Q (.inr E) h' → E = "java/lang/IndexOutOfBoundsException") : EvMH G m_Lw_rests hh_Lw_rests [.ref x, .int p0, .ref out] h (hQ Q out cs_Lw_rests) := by
  refine EvMH.of (by decide) (fun w hw => by simp only [List.mem_cons, List.not_mem_nil, or_false] at hw; rcases hw with rfl | rfl | rfl <;> rfl) (by show 3 ≤ 4; decide) ?_
  show EvH G m_Lw_rests hh_Lw_rests 0 [.ref x, .int p0, .ref out, un] [] h 0 0 _
  refine eh_aloadn (i := 2) (j := 2) rfl (by decide +kernel) rfl ?_
  refine eh_iconst (n := 0) (v := 0) (by decide +kernel) rfl ?_
  refine eh_aloadn (i := 0) (j := 0) rfl (by decide +kernel) rfl ?_
  refine eh_iloadn (i := 1) (j := 1) rfl (by decide +kernel) rfl ?_
  show EvH G m_Lw_rests hh_Lw_rests 4 [.ref x, .int p0, .ref out, un] (([.int p0] : List Value).reverse ++ .ref x :: [.int 0, .ref out]) h 0 0 _
  refine eh_callV (q := m_Gr_rests) (idx := 101) hM (wd_ok (k := 1489) (by decide +kernel)) (wd_ok (k := 1486) (by decide +kernel)) (wd_ok (k := 134) (by decide +kernel)) (wd_ok (k := 1487) (by decide +kernel)) (wd_ok (k := 1488) (by decide +kernel)) (by show plainB _ 1 = true; decide +kernel) (by decide) (by decide) (Or.inl ⟨9, 13, TX11, rfl, hx⟩) (by show 2 ≤ 8; decide) (by decide +kernel) (by decide) (by decide) (fun v h' z => ?_) (fun E h' z => ?_)
  · obtain ⟨so, y, rfl⟩ := hv v h' z
    show EvH G m_Lw_rests hh_Lw_rests 7 [.ref x, .int p0, .ref out, un] (.int y :: .int 0 :: .ref out :: []) h' _ _ _
    refine eh_i2l (by decide +kernel) ?_
    refine eh_last ho so vp01 (by decide +kernel) ?_
    rw [cln0]
    refine eh_goto (off := 6) (tgt := 15) (by decide +kernel) rfl ?_
    refine eh_iconst (n := 0) (v := 0) (by decide +kernel) rfl ?_
    exact eh_iret (ty := .int) rfl rfl (by decide +kernel) (Or.inl ⟨_, _, z, rfl, rfl⟩)
  · obtain rfl := hE E h' z
    refine ⟨12, ⟨[], ⟨0, 9, 12, 24⟩, [], "java/lang/IndexOutOfBoundsException", rfl, ?_, by decide, by decide, rfl, cl_24, by decide +kernel⟩, fun a => ?_⟩
    · exact fun y hy => absurd hy List.not_mem_nil
    · refine eh_astoren (i := 3) (j := 3) rfl (by decide +kernel) (by decide) ?_
      refine eh_iconst (n := 1) (v := 1) (by decide +kernel) rfl ?_
      exact eh_iret (ty := .int) rfl rfl (by decide +kernel) (Or.inr ⟨_, 1, _, by decide, z, rfl, rfl⟩)
def m_Lw_odds : Mr := (⟨"GripEstatesLaw", "odds", "(LGripEstates;I[J)I"⟩, method_29_code, 4, (some FieldType.int), 1, 6, 8)
def hh_Lw_odds : Hd := [(0, 9, 12, 13)]
def cs_Lw_odds : List (String × Int32) := [("java/lang/IllegalArgumentException", 1)]
theorem h_Lw_odds {p0 : Int32} (hM : EvM G m_Gr_odds (.ref x :: [.int p0]) h Q) (hx : (h.1 x).1 = 10) (ho : G.n0 ≤ out) (hv : ∀ v h', Q (.inl v) h' → h'.1 out = (104, 1) ∧ ∃ y, v = some (.int y)) (hE : ∀ E h', Q (.inr E) h' → E = "java/lang/IllegalArgumentException") : EvMH G m_Lw_odds hh_Lw_odds [.ref x, .int p0, .ref out] h (hQ Q out cs_Lw_odds) := by
  refine EvMH.of (by decide) (fun w hw => by simp only [List.mem_cons, List.not_mem_nil, or_false] at hw; rcases hw with rfl | rfl | rfl <;> rfl) (by show 3 ≤ 4; decide) ?_
  show EvH G m_Lw_odds hh_Lw_odds 0 [.ref x, .int p0, .ref out, un] [] h 0 0 _
  refine eh_aloadn (i := 2) (j := 2) rfl (by decide +kernel) rfl ?_
  refine eh_iconst (n := 0) (v := 0) (by decide +kernel) rfl ?_
  refine eh_aloadn (i := 0) (j := 0) rfl (by decide +kernel) rfl ?_
  refine eh_iloadn (i := 1) (j := 1) rfl (by decide +kernel) rfl ?_
  show EvH G m_Lw_odds hh_Lw_odds 4 [.ref x, .int p0, .ref out, un] (([.int p0] : List Value).reverse ++ .ref x :: [.int 0, .ref out]) h 0 0 _
  refine eh_callV (q := m_Gr_odds) (idx := 104) hM (wd_ok (k := 1506) (by decide +kernel)) (wd_ok (k := 1503) (by decide +kernel)) (wd_ok (k := 134) (by decide +kernel)) (wd_ok (k := 1504) (by decide +kernel)) (wd_ok (k := 1505) (by decide +kernel)) (by show plainB _ 1 = true; decide +kernel) (by decide) (by decide) (Or.inl ⟨9, 13, TX11, rfl, hx⟩) (by show 2 ≤ 8; decide) (by decide +kernel) (by decide) (by decide) (fun v h' z => ?_) (fun E h' z => ?_)
  · obtain ⟨so, y, rfl⟩ := hv v h' z
    show EvH G m_Lw_odds hh_Lw_odds 7 [.ref x, .int p0, .ref out, un] (.int y :: .int 0 :: .ref out :: []) h' _ _ _
    refine eh_i2l (by decide +kernel) ?_
    refine eh_last ho so vp01 (by decide +kernel) ?_
    rw [cln0]
    refine eh_goto (off := 6) (tgt := 15) (by decide +kernel) rfl ?_
    refine eh_iconst (n := 0) (v := 0) (by decide +kernel) rfl ?_
    exact eh_iret (ty := .int) rfl rfl (by decide +kernel) (Or.inl ⟨_, _, z, rfl, rfl⟩)
  · obtain rfl := hE E h' z
    refine ⟨12, ⟨[], ⟨0, 9, 12, 13⟩, [], "java/lang/IllegalArgumentException", rfl, ?_, by decide, by decide, rfl, cl_13, by decide +kernel⟩, fun a => ?_⟩
    · exact fun y hy => absurd hy List.not_mem_nil
    · refine eh_astoren (i := 3) (j := 3) rfl (by decide +kernel) (by decide) ?_
      refine eh_iconst (n := 1) (v := 1) (by decide +kernel) rfl ?_
      exact eh_iret (ty := .int) rfl rfl (by decide +kernel) (Or.inr ⟨_, 1, _, by decide, z, rfl, rfl⟩)
def m_Lw_most : Mr := (⟨"GripEstatesLaw", "most", "(LGripEstates;I[J)I"⟩, method_30_code, 4, (some FieldType.int), 1, 6, 8)
def hh_Lw_most : Hd := [(0, 9, 12, 26)]
def cs_Lw_most : List (String × Int32) := [("java/util/NoSuchElementException", 1)]
theorem h_Lw_most {p0 : Int32} (hM : EvM G m_Gr_most (.ref x :: [.int p0]) h Q) (hx : (h.1 x).1 = 10) (ho : G.n0 ≤ out) (hv : ∀ v h', Q (.inl v) h' → h'.1 out = (104, 1) ∧ ∃ y, v = some (.int y)) (hE : ∀ E h', Q (.inr E) h' → E = "java/util/NoSuchElementException") : EvMH G m_Lw_most hh_Lw_most [.ref x, .int p0, .ref out] h (hQ Q out cs_Lw_most) := by
  refine EvMH.of (by decide) (fun w hw => by simp only [List.mem_cons, List.not_mem_nil, or_false] at hw; rcases hw with rfl | rfl | rfl <;> rfl) (by show 3 ≤ 4; decide) ?_
  show EvH G m_Lw_most hh_Lw_most 0 [.ref x, .int p0, .ref out, un] [] h 0 0 _
  refine eh_aloadn (i := 2) (j := 2) rfl (by decide +kernel) rfl ?_
  refine eh_iconst (n := 0) (v := 0) (by decide +kernel) rfl ?_
  refine eh_aloadn (i := 0) (j := 0) rfl (by decide +kernel) rfl ?_
  refine eh_iloadn (i := 1) (j := 1) rfl (by decide +kernel) rfl ?_
  show EvH G m_Lw_most hh_Lw_most 4 [.ref x, .int p0, .ref out, un] (([.int p0] : List Value).reverse ++ .ref x :: [.int 0, .ref out]) h 0 0 _
  refine eh_callV (q := m_Gr_most) (idx := 107) hM (wd_ok (k := 1517) (by decide +kernel)) (wd_ok (k := 1514) (by decide +kernel)) (wd_ok (k := 134) (by decide +kernel)) (wd_ok (k := 1515) (by decide +kernel)) (wd_ok (k := 1516) (by decide +kernel)) (by show plainB _ 1 = true; decide +kernel) (by decide) (by decide) (Or.inl ⟨9, 13, TX11, rfl, hx⟩) (by show 2 ≤ 8; decide) (by decide +kernel) (by decide) (by decide) (fun v h' z => ?_) (fun E h' z => ?_)
  · obtain ⟨so, y, rfl⟩ := hv v h' z
    show EvH G m_Lw_most hh_Lw_most 7 [.ref x, .int p0, .ref out, un] (.int y :: .int 0 :: .ref out :: []) h' _ _ _
    refine eh_i2l (by decide +kernel) ?_
    refine eh_last ho so vp01 (by decide +kernel) ?_
    rw [cln0]
    refine eh_goto (off := 6) (tgt := 15) (by decide +kernel) rfl ?_
    refine eh_iconst (n := 0) (v := 0) (by decide +kernel) rfl ?_
    exact eh_iret (ty := .int) rfl rfl (by decide +kernel) (Or.inl ⟨_, _, z, rfl, rfl⟩)
  · obtain rfl := hE E h' z
    refine ⟨12, ⟨[], ⟨0, 9, 12, 26⟩, [], "java/util/NoSuchElementException", rfl, ?_, by decide, by decide, rfl, cl_26, by decide +kernel⟩, fun a => ?_⟩
    · exact fun y hy => absurd hy List.not_mem_nil
    · refine eh_astoren (i := 3) (j := 3) rfl (by decide +kernel) (by decide) ?_
      refine eh_iconst (n := 1) (v := 1) (by decide +kernel) rfl ?_
      exact eh_iret (ty := .int) rfl rfl (by decide +kernel) (Or.inr ⟨_, 1, _, by decide, z, rfl, rfl⟩)
def m_Lw_ahead : Mr := (⟨"GripEstatesLaw", "ahead", "(LGripEstates;II[J)I"⟩, method_31_code, 5, (some FieldType.int), 2, 12, 8)
def hh_Lw_ahead : Hd := [(0, 10, 13, 24), (0, 10, 17, 13)]
def cs_Lw_ahead : List (String × Int32) := [("java/lang/IndexOutOfBoundsException", 1), ("java/lang/IllegalArgumentException", 2)]
theorem h_Lw_ahead {p0 p1 : Int32} (hM : EvM G m_Gr_ahead (.ref x :: [.int p0, .int p1]) h Q) (hx : (h.1 x).1 = 10) (ho : G.n0 ≤ out) (hv : ∀ v h', Q (.inl v) h' → h'.1 out = (104, 1) ∧ ∃ y, v = some (.int y)) (hE : ∀ E h', Q (.inr E) h' → E = "java/lang/IndexOutOfBoundsException" ∨ E = "java/lang/IllegalArgumentException") : EvMH G m_Lw_ahead hh_Lw_ahead [.ref x, .int p0, .int p1, .ref out] h (hQ Q out cs_Lw_ahead) := by
  refine EvMH.of (by decide) (fun w hw => by simp only [List.mem_cons, List.not_mem_nil, or_false] at hw; rcases hw with rfl | rfl | rfl | rfl <;> rfl) (by show 4 ≤ 5; decide) ?_
  show EvH G m_Lw_ahead hh_Lw_ahead 0 [.ref x, .int p0, .int p1, .ref out, un] [] h 0 0 _
  refine eh_aloadn (i := 3) (j := 3) rfl (by decide +kernel) rfl ?_
  refine eh_iconst (n := 0) (v := 0) (by decide +kernel) rfl ?_
  refine eh_aloadn (i := 0) (j := 0) rfl (by decide +kernel) rfl ?_
  refine eh_iloadn (i := 1) (j := 1) rfl (by decide +kernel) rfl ?_
  refine eh_iloadn (i := 2) (j := 2) rfl (by decide +kernel) rfl ?_
  show EvH G m_Lw_ahead hh_Lw_ahead 5 [.ref x, .int p0, .int p1, .ref out, un] (([.int p0, .int p1] : List Value).reverse ++ .ref x :: [.int 0, .ref out]) h 0 0 _
  refine eh_callV (q := m_Gr_ahead) (idx := 110) hM (wd_ok (k := 1530) (by decide +kernel)) (wd_ok (k := 1527) (by decide +kernel)) (wd_ok (k := 134) (by decide +kernel)) (wd_ok (k := 1528) (by decide +kernel)) (wd_ok (k := 1529) (by decide +kernel)) (by show plainB _ 2 = true; decide +kernel) (by decide) (by decide) (Or.inl ⟨9, 13, TX11, rfl, hx⟩) (by show 2 ≤ 8; decide) (by decide +kernel) (by decide) (by decide) (fun v h' z => ?_) (fun E h' z => ?_)
  · obtain ⟨so, y, rfl⟩ := hv v h' z
    show EvH G m_Lw_ahead hh_Lw_ahead 8 [.ref x, .int p0, .int p1, .ref out, un] (.int y :: .int 0 :: .ref out :: []) h' _ _ _
    refine eh_i2l (by decide +kernel) ?_
    refine eh_last ho so vp01 (by decide +kernel) ?_
    rw [cln0]
    refine eh_goto (off := 11) (tgt := 21) (by decide +kernel) rfl ?_
    refine eh_iconst (n := 0) (v := 0) (by decide +kernel) rfl ?_
    exact eh_iret (ty := .int) rfl rfl (by decide +kernel) (Or.inl ⟨_, _, z, rfl, rfl⟩)
  · obtain rfl | rfl := hE E h' z
    · refine ⟨13, ⟨[], ⟨0, 10, 13, 24⟩, [⟨0, 10, 17, 13⟩], "java/lang/IndexOutOfBoundsException", rfl, ?_, by decide, by decide, rfl, cl_24, by decide +kernel⟩, fun a => ?_⟩
      · exact fun y hy => absurd hy List.not_mem_nil
      · refine eh_astore (i := 4) (by decide +kernel) (by decide) ?_
        refine eh_iconst (n := 1) (v := 1) (by decide +kernel) rfl ?_
        exact eh_iret (ty := .int) rfl rfl (by decide +kernel) (Or.inr ⟨_, 1, _, by decide, z, rfl, rfl⟩)
    · refine ⟨17, ⟨[⟨0, 10, 13, 24⟩], ⟨0, 10, 17, 13⟩, [], "java/lang/IllegalArgumentException", rfl, ?_, by decide, by decide, rfl, cl_13, by decide +kernel⟩, fun a => ?_⟩
      · intro y hy
        simp only [List.mem_cons, List.not_mem_nil, or_false] at hy
        subst hy
        exact ⟨by decide, _, cl_24, by decide +kernel⟩
      · refine eh_astore (i := 4) (by decide +kernel) (by decide) ?_
        refine eh_iconst (n := 2) (v := 2) (by decide +kernel) rfl ?_
        exact eh_iret (ty := .int) rfl rfl (by decide +kernel) (Or.inr ⟨_, 2, _, by decide, z, rfl, rfl⟩)
def m_Lw_trial : Mr := (⟨"GripEstatesLaw", "trial", "(LGripEstates;IZ[J)I"⟩, method_32_code, 5, (some FieldType.int), 1, 6, 8)
def hh_Lw_trial : Hd := [(0, 10, 13, 13)]
def cs_Lw_trial : List (String × Int32) := [("java/lang/IllegalArgumentException", 1)]
theorem h_Lw_trial {p0 p1 : Int32} (hM : EvM G m_Gr_trial (.ref x :: [.int p0, .int p1]) h Q) (hx : (h.1 x).1 = 10) (ho : G.n0 ≤ out) (hv : ∀ v h', Q (.inl v) h' → h'.1 out = (104, 1) ∧ ∃ y, v = some (.int y)) (hE : ∀ E h', Q (.inr E) h' → E = "java/lang/IllegalArgumentException") : EvMH G m_Lw_trial hh_Lw_trial [.ref x, .int p0, .int p1, .ref out] h (hQ Q out cs_Lw_trial) := by
  refine EvMH.of (by decide) (fun w hw => by simp only [List.mem_cons, List.not_mem_nil, or_false] at hw; rcases hw with rfl | rfl | rfl | rfl <;> rfl) (by show 4 ≤ 5; decide) ?_
  show EvH G m_Lw_trial hh_Lw_trial 0 [.ref x, .int p0, .int p1, .ref out, un] [] h 0 0 _
  refine eh_aloadn (i := 3) (j := 3) rfl (by decide +kernel) rfl ?_
  refine eh_iconst (n := 0) (v := 0) (by decide +kernel) rfl ?_
  refine eh_aloadn (i := 0) (j := 0) rfl (by decide +kernel) rfl ?_
  refine eh_iloadn (i := 1) (j := 1) rfl (by decide +kernel) rfl ?_
  refine eh_iloadn (i := 2) (j := 2) rfl (by decide +kernel) rfl ?_
  show EvH G m_Lw_trial hh_Lw_trial 5 [.ref x, .int p0, .int p1, .ref out, un] (([.int p0, .int p1] : List Value).reverse ++ .ref x :: [.int 0, .ref out]) h 0 0 _
  refine eh_callV (q := m_Gr_trial) (idx := 113) hM (wd_ok (k := 1541) (by decide +kernel)) (wd_ok (k := 1538) (by decide +kernel)) (wd_ok (k := 134) (by decide +kernel)) (wd_ok (k := 1539) (by decide +kernel)) (wd_ok (k := 1540) (by decide +kernel)) (by show plainB _ 2 = true; decide +kernel) (by decide) (by decide) (Or.inl ⟨9, 13, TX11, rfl, hx⟩) (by show 2 ≤ 8; decide) (by decide +kernel) (by decide) (by decide) (fun v h' z => ?_) (fun E h' z => ?_)
  · obtain ⟨so, y, rfl⟩ := hv v h' z
    show EvH G m_Lw_trial hh_Lw_trial 8 [.ref x, .int p0, .int p1, .ref out, un] (.int y :: .int 0 :: .ref out :: []) h' _ _ _
    refine eh_i2l (by decide +kernel) ?_
    refine eh_last ho so vp01 (by decide +kernel) ?_
    rw [cln0]
    refine eh_goto (off := 7) (tgt := 17) (by decide +kernel) rfl ?_
    refine eh_iconst (n := 0) (v := 0) (by decide +kernel) rfl ?_
    exact eh_iret (ty := .int) rfl rfl (by decide +kernel) (Or.inl ⟨_, _, z, rfl, rfl⟩)
  · obtain rfl := hE E h' z
    refine ⟨13, ⟨[], ⟨0, 10, 13, 13⟩, [], "java/lang/IllegalArgumentException", rfl, ?_, by decide, by decide, rfl, cl_13, by decide +kernel⟩, fun a => ?_⟩
    · exact fun y hy => absurd hy List.not_mem_nil
    · refine eh_astore (i := 4) (by decide +kernel) (by decide) ?_
      refine eh_iconst (n := 1) (v := 1) (by decide +kernel) rfl ?_
      exact eh_iret (ty := .int) rfl rfl (by decide +kernel) (Or.inr ⟨_, 1, _, by decide, z, rfl, rfl⟩)
def m_Lw_span : Mr := (⟨"GripEstatesLaw", "span", "(LGripEstates;IZ[J)I"⟩, method_33_code, 5, (some FieldType.int), 1, 6, 8)
def hh_Lw_span : Hd := [(0, 10, 13, 13)]
def cs_Lw_span : List (String × Int32) := [("java/lang/IllegalArgumentException", 1)]
theorem h_Lw_span {p0 p1 : Int32} (hM : EvM G m_Gr_span (.ref x :: [.int p0, .int p1]) h Q) (hx : (h.1 x).1 = 10) (ho : G.n0 ≤ out) (hv : ∀ v h', Q (.inl v) h' → h'.1 out = (104, 1) ∧ ∃ y, v = some (.int y)) (hE : ∀ E h', Q (.inr E) h' → E = "java/lang/IllegalArgumentException") : EvMH G m_Lw_span hh_Lw_span [.ref x, .int p0, .int p1, .ref out] h (hQ Q out cs_Lw_span) := by
  refine EvMH.of (by decide) (fun w hw => by simp only [List.mem_cons, List.not_mem_nil, or_false] at hw; rcases hw with rfl | rfl | rfl | rfl <;> rfl) (by show 4 ≤ 5; decide) ?_
  show EvH G m_Lw_span hh_Lw_span 0 [.ref x, .int p0, .int p1, .ref out, un] [] h 0 0 _
  refine eh_aloadn (i := 3) (j := 3) rfl (by decide +kernel) rfl ?_
  refine eh_iconst (n := 0) (v := 0) (by decide +kernel) rfl ?_
  refine eh_aloadn (i := 0) (j := 0) rfl (by decide +kernel) rfl ?_
  refine eh_iloadn (i := 1) (j := 1) rfl (by decide +kernel) rfl ?_
  refine eh_iloadn (i := 2) (j := 2) rfl (by decide +kernel) rfl ?_
  show EvH G m_Lw_span hh_Lw_span 5 [.ref x, .int p0, .int p1, .ref out, un] (([.int p0, .int p1] : List Value).reverse ++ .ref x :: [.int 0, .ref out]) h 0 0 _
  refine eh_callV (q := m_Gr_span) (idx := 117) hM (wd_ok (k := 1548) (by decide +kernel)) (wd_ok (k := 1545) (by decide +kernel)) (wd_ok (k := 134) (by decide +kernel)) (wd_ok (k := 1546) (by decide +kernel)) (wd_ok (k := 1547) (by decide +kernel)) (by show plainB _ 2 = true; decide +kernel) (by decide) (by decide) (Or.inl ⟨9, 13, TX11, rfl, hx⟩) (by show 2 ≤ 8; decide) (by decide +kernel) (by decide) (by decide) (fun v h' z => ?_) (fun E h' z => ?_)
  · obtain ⟨so, y, rfl⟩ := hv v h' z
    show EvH G m_Lw_span hh_Lw_span 8 [.ref x, .int p0, .int p1, .ref out, un] (.int y :: .int 0 :: .ref out :: []) h' _ _ _
    refine eh_i2l (by decide +kernel) ?_
    refine eh_last ho so vp01 (by decide +kernel) ?_
    rw [cln0]
    refine eh_goto (off := 7) (tgt := 17) (by decide +kernel) rfl ?_
    refine eh_iconst (n := 0) (v := 0) (by decide +kernel) rfl ?_
    exact eh_iret (ty := .int) rfl rfl (by decide +kernel) (Or.inl ⟨_, _, z, rfl, rfl⟩)
  · obtain rfl := hE E h' z
    refine ⟨13, ⟨[], ⟨0, 10, 13, 13⟩, [], "java/lang/IllegalArgumentException", rfl, ?_, by decide, by decide, rfl, cl_13, by decide +kernel⟩, fun a => ?_⟩
    · exact fun y hy => absurd hy List.not_mem_nil
    · refine eh_astore (i := 4) (by decide +kernel) (by decide) ?_
      refine eh_iconst (n := 1) (v := 1) (by decide +kernel) rfl ?_
      exact eh_iret (ty := .int) rfl rfl (by decide +kernel) (Or.inr ⟨_, 1, _, by decide, z, rfl, rfl⟩)
def m_Lw_led : Mr := (⟨"GripEstatesLaw", "led", "(LGripEstates;IZ[J)I"⟩, method_34_code, 5, (some FieldType.int), 1, 6, 8)
def hh_Lw_led : Hd := [(0, 10, 13, 24)]
def cs_Lw_led : List (String × Int32) := [("java/lang/IndexOutOfBoundsException", 1)]
theorem h_Lw_led {p0 p1 : Int32} (hM : EvM G m_Gr_led (.ref x :: [.int p0, .int p1]) h Q) (hx : (h.1 x).1 = 10) (ho : G.n0 ≤ out) (hv : ∀ v h', Q (.inl v) h' → h'.1 out = (104, 1) ∧ ∃ y, v = some (.int y)) (hE : ∀ E h', Q (.inr E) h' → E = "java/lang/IndexOutOfBoundsException") : EvMH G m_Lw_led hh_Lw_led [.ref x, .int p0, .int p1, .ref out] h (hQ Q out cs_Lw_led) := by
  refine EvMH.of (by decide) (fun w hw => by simp only [List.mem_cons, List.not_mem_nil, or_false] at hw; rcases hw with rfl | rfl | rfl | rfl <;> rfl) (by show 4 ≤ 5; decide) ?_
  show EvH G m_Lw_led hh_Lw_led 0 [.ref x, .int p0, .int p1, .ref out, un] [] h 0 0 _
  refine eh_aloadn (i := 3) (j := 3) rfl (by decide +kernel) rfl ?_
  refine eh_iconst (n := 0) (v := 0) (by decide +kernel) rfl ?_
  refine eh_aloadn (i := 0) (j := 0) rfl (by decide +kernel) rfl ?_
  refine eh_iloadn (i := 1) (j := 1) rfl (by decide +kernel) rfl ?_
  refine eh_iloadn (i := 2) (j := 2) rfl (by decide +kernel) rfl ?_
  show EvH G m_Lw_led hh_Lw_led 5 [.ref x, .int p0, .int p1, .ref out, un] (([.int p0, .int p1] : List Value).reverse ++ .ref x :: [.int 0, .ref out]) h 0 0 _
  refine eh_callV (q := m_Gr_led) (idx := 120) hM (wd_ok (k := 1555) (by decide +kernel)) (wd_ok (k := 1552) (by decide +kernel)) (wd_ok (k := 134) (by decide +kernel)) (wd_ok (k := 1553) (by decide +kernel)) (wd_ok (k := 1554) (by decide +kernel)) (by show plainB _ 2 = true; decide +kernel) (by decide) (by decide) (Or.inl ⟨9, 13, TX11, rfl, hx⟩) (by show 2 ≤ 8; decide) (by decide +kernel) (by decide) (by decide) (fun v h' z => ?_) (fun E h' z => ?_)
  · obtain ⟨so, y, rfl⟩ := hv v h' z
    show EvH G m_Lw_led hh_Lw_led 8 [.ref x, .int p0, .int p1, .ref out, un] (.int y :: .int 0 :: .ref out :: []) h' _ _ _
    refine eh_i2l (by decide +kernel) ?_
    refine eh_last ho so vp01 (by decide +kernel) ?_
    rw [cln0]
    refine eh_goto (off := 7) (tgt := 17) (by decide +kernel) rfl ?_
    refine eh_iconst (n := 0) (v := 0) (by decide +kernel) rfl ?_
    exact eh_iret (ty := .int) rfl rfl (by decide +kernel) (Or.inl ⟨_, _, z, rfl, rfl⟩)
  · obtain rfl := hE E h' z
    refine ⟨13, ⟨[], ⟨0, 10, 13, 24⟩, [], "java/lang/IndexOutOfBoundsException", rfl, ?_, by decide, by decide, rfl, cl_24, by decide +kernel⟩, fun a => ?_⟩
    · exact fun y hy => absurd hy List.not_mem_nil
    · refine eh_astore (i := 4) (by decide +kernel) (by decide) ?_
      refine eh_iconst (n := 1) (v := 1) (by decide +kernel) rfl ?_
      exact eh_iret (ty := .int) rfl rfl (by decide +kernel) (Or.inr ⟨_, 1, _, by decide, z, rfl, rfl⟩)
def m_Lw_log : Mr := (⟨"GripEstatesLaw", "log", "(LGripEstates;II[J)I"⟩, method_35_code, 5, (some FieldType.int), 1, 6, 7)
def hh_Lw_log : Hd := [(0, 10, 13, 26)]
def cs_Lw_log : List (String × Int32) := [("java/util/NoSuchElementException", 1)]
theorem h_Lw_log {p0 p1 : Int32} (hM : EvM G m_Gr_log (.ref x :: [.int p0, .int p1]) h Q) (hx : (h.1 x).1 = 10) (ho : G.n0 ≤ out) (hv : ∀ v h', Q (.inl v) h' → h'.1 out = (104, 1) ∧ ∃ y, v = some (.int y)) (hE : ∀ E h', Q (.inr E) h' → E = "java/util/NoSuchElementException") : EvMH G m_Lw_log hh_Lw_log [.ref x, .int p0, .int p1, .ref out] h (hQ Q out cs_Lw_log) := by
  refine EvMH.of (by decide) (fun w hw => by simp only [List.mem_cons, List.not_mem_nil, or_false] at hw; rcases hw with rfl | rfl | rfl | rfl <;> rfl) (by show 4 ≤ 5; decide) ?_
  show EvH G m_Lw_log hh_Lw_log 0 [.ref x, .int p0, .int p1, .ref out, un] [] h 0 0 _
  refine eh_aloadn (i := 3) (j := 3) rfl (by decide +kernel) rfl ?_
  refine eh_iconst (n := 0) (v := 0) (by decide +kernel) rfl ?_
  refine eh_aloadn (i := 0) (j := 0) rfl (by decide +kernel) rfl ?_
  refine eh_iloadn (i := 1) (j := 1) rfl (by decide +kernel) rfl ?_
  refine eh_iloadn (i := 2) (j := 2) rfl (by decide +kernel) rfl ?_
  show EvH G m_Lw_log hh_Lw_log 5 [.ref x, .int p0, .int p1, .ref out, un] (([.int p0, .int p1] : List Value).reverse ++ .ref x :: [.int 0, .ref out]) h 0 0 _
  refine eh_callV (q := m_Gr_log) (idx := 123) hM (wd_ok (k := 1574) (by decide +kernel)) (wd_ok (k := 1571) (by decide +kernel)) (wd_ok (k := 134) (by decide +kernel)) (wd_ok (k := 1572) (by decide +kernel)) (wd_ok (k := 1573) (by decide +kernel)) (by show plainB _ 2 = true; decide +kernel) (by decide) (by decide) (Or.inl ⟨9, 13, TX11, rfl, hx⟩) (by show 2 ≤ 8; decide) (by decide +kernel) (by decide) (by decide) (fun v h' z => ?_) (fun E h' z => ?_)
  · obtain ⟨so, y, rfl⟩ := hv v h' z
    show EvH G m_Lw_log hh_Lw_log 8 [.ref x, .int p0, .int p1, .ref out, un] (.int y :: .int 0 :: .ref out :: []) h' _ _ _
    refine eh_i2l (by decide +kernel) ?_
    refine eh_last ho so vp01 (by decide +kernel) ?_
    rw [cln0]
    refine eh_goto (off := 7) (tgt := 17) (by decide +kernel) rfl ?_
    refine eh_iconst (n := 0) (v := 0) (by decide +kernel) rfl ?_
    exact eh_iret (ty := .int) rfl rfl (by decide +kernel) (Or.inl ⟨_, _, z, rfl, rfl⟩)
  · obtain rfl := hE E h' z
    refine ⟨13, ⟨[], ⟨0, 10, 13, 26⟩, [], "java/util/NoSuchElementException", rfl, ?_, by decide, by decide, rfl, cl_26, by decide +kernel⟩, fun a => ?_⟩
    · exact fun y hy => absurd hy List.not_mem_nil
    · refine eh_astore (i := 4) (by decide +kernel) (by decide) ?_
      refine eh_iconst (n := 1) (v := 1) (by decide +kernel) rfl ?_
      exact eh_iret (ty := .int) rfl rfl (by decide +kernel) (Or.inr ⟨_, 1, _, by decide, z, rfl, rfl⟩)
end HLP
