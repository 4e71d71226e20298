/-! ===== texts: tokens by their places; the class's reader ===== -/
/-- the words and signs, by number -/
def wt (o : Nat) : List Nat := match o with
  | 3 => [112, 101, 114, 115, 111, 110]
  | 4 => [97, 103, 101]
  | 5 => [103, 114, 105, 112]
  | 6 => [104, 101, 105, 114]
  | 7 => [116, 105, 101, 100]
  | 8 => [116, 104, 105, 110, 103]
  | 9 => [119, 111, 114, 116, 104]
  | 10 => [115, 105, 122, 101]
  | 11 => [111, 102]
  | 12 => [104, 101, 108, 100]
  | 13 => [99, 108, 111, 116, 104]
  | 14 => [99, 114, 111, 119, 110]
  | 15 => [100, 101, 97, 116, 104]
  | 16 => [119, 105, 116, 110, 101, 115, 115, 101, 115]
  | 17 => [110, 105, 103, 104, 116]
  | 18 => [115, 108, 105, 112]
  | 19 => [102, 97, 105, 108]
  | 20 => [105, 102]
  | 21 => [111, 114]
  | 22 => [97, 110, 100]
  | 23 => [110, 111, 116]
  | 24 => [111, 112, 101, 110]
  | 25 => [97, 108, 111, 110, 101]
  | 26 => [104, 97, 110, 100]
  | 27 => [111, 119, 110, 115]
  | 28 => [108, 97, 105, 100]
  | 29 => [59]
  | 30 => [40]
  | 31 => [41]
  | 32 => [43]
  | 33 => [60]
  | 34 => [62]
  | _ => []
/-- where the constants stand among the statics -/
def sti (o : Nat) : Nat := match o with
  | 0 => 8
  | 1 => 0
  | 2 => 7
  | 3 => 9
  | 4 => 10
  | 5 => 11
  | 6 => 12
  | 7 => 13
  | 8 => 14
  | 9 => 15
  | 10 => 16
  | 11 => 17
  | 12 => 18
  | 13 => 19
  | 14 => 20
  | 15 => 21
  | 16 => 22
  | 17 => 23
  | 18 => 25
  | 19 => 26
  | 20 => 27
  | 21 => 35
  | 22 => 34
  | 23 => 28
  | 24 => 36
  | 25 => 37
  | 26 => 38
  | 27 => 39
  | 28 => 40
  | 29 => 24
  | 30 => 29
  | 31 => 30
  | 32 => 31
  | 33 => 32
  | _ => 33
/-- what a word stands for in a condition -/
def opI (o : Nat) : Int32 := match o with
  | 3 => (-20)
  | 4 => (-19)
  | 7 => (-12)
  | 10 => (-15)
  | 17 => (-14)
  | 24 => (-13)
  | 25 => (-11)
  | 26 => (-18)
  | 27 => (-17)
  | 28 => (-16)
  | 33 => (-9)
  | 34 => (-8)
  | _ => 0
def isSp (k : Nat) : Bool := decide (k = 32)
def isLe (k : Nat) : Bool := decide (97 ≤ k ∧ k ≤ 122)
def isDi (k : Nat) : Bool := decide (48 ≤ k ∧ k ≤ 57)
def rnG (f : Nat → Bool) (b : Nat → Nat) (u : Nat) : Nat → Nat → Nat
  | 0, i => i
  | d + 1, i => if i < u ∧ f (b i) = true then rnG f b u d (i + 1) else i
/-- the end of a run -/
def rn (f : Nat → Bool) (b : Nat → Nat) (u i : Nat) : Nat := rnG f b u (u - i) i
section RUN
variable {f : Nat → Bool} {b : Nat → Nat} {u i : Nat}
theorem rn_s (h : i < u) (hf : f (b i) = true) : rn f b u i = rn f b u (i + 1) := by
  unfold rn
  rw [show u - i = (u - (i + 1)) + 1 by omega]
  show (if i < u ∧ f (b i) = true then _ else _) = _
  rw [if_pos ⟨h, hf⟩]
theorem rn_n (h : ¬ (i < u ∧ f (b i) = true)) : rn f b u i = i := by
  unfold rn
  cases u - i with
  | zero => rfl
  | succ d => show (if i < u ∧ f (b i) = true then _ else _) = _; rw [if_neg h]
theorem rn_sp : ∀ d i, u - i = d → i ≤ rn f b u i ∧ (i ≤ u → rn f b u i ≤ u) ∧ (∀ j, i ≤ j → j < rn f b u i → f (b j) = true) ∧ ¬ (rn f b u i < u ∧ f (b (rn f b u i)) = true)
  | 0, i, e => by
    rw [rn_n (by omega)]
    exact ⟨Nat.le_refl _, fun h => h, fun j a b => by omega, by omega⟩
  | d + 1, i, e => by
    by_cases c : i < u ∧ f (b i) = true
    · rw [rn_s c.1 c.2]
      obtain ⟨a1, a2, a3, a4⟩ := rn_sp d (i + 1) (by omega)
      refine ⟨by omega, fun _ => a2 (by omega), fun j j1 j2 => ?_, a4⟩
      by_cases z : j = i
      · subst z; exact c.2
      · exact a3 j (by omega) j2
    · rw [rn_n c]
      exact ⟨Nat.le_refl _, fun h => h, fun j a b => by omega, c⟩
theorem rn_ge : i ≤ rn f b u i := (rn_sp _ i rfl).1
theorem rn_le (h : i ≤ u) : rn f b u i ≤ u := (rn_sp _ i rfl).2.1 h
theorem rn_gt (h : i < u) (hf : f (b i) = true) : i < rn f b u i := by rw [rn_s h hf]; have := rn_ge (f := f) (b := b) (u := u) (i := i + 1); omega
theorem rn_in {j : Nat} (h1 : i ≤ j) (h2 : j < rn f b u i) : f (b j) = true := (rn_sp _ i rfl).2.2.1 j h1 h2
theorem rn_end : ¬ (rn f b u i < u ∧ f (b (rn f b u i)) = true) := (rn_sp _ i rfl).2.2.2
theorem rn_rn : rn f b u (rn f b u i) = rn f b u i := rn_n rn_end
end RUN
def sk (b : Nat → Nat) (u i : Nat) : Nat := rn isSp b u i
def en (b : Nat → Nat) (u i : Nat) : Nat := if isLe (b i) = true then rn isLe b u i else if isDi (b i) = true then rn isDi b u i else i + 1
def nx (b : Nat → Nat) (u i : Nat) : Nat := sk b u (en b u i)
def mtc (b : Nat → Nat) : List Nat → Nat → Bool
  | [], _ => true
  | c :: w, i => decide (b i = c) && mtc b w (i + 1)
def spG (b : Nat → Nat) (fr to : Nat) : Nat → Nat → Nat
  | 0, _ => 2
  | d + 1, o => if (wt o).length = to - fr ∧ mtc b (wt o) fr = true then o else spG b fr to d (o + 1)
def tok (b : Nat → Nat) (u i : Nat) : Nat := if i < u then (if isDi (b i) = true then 1 else spG b i (en b u i) 35 0) else 0
def nvG (b : Nat → Nat) : Nat → Nat → Nat → Nat
  | 0, _, v => v
  | d + 1, i, v => nvG b d (i + 1) (10 * v + (b i - 48))
def nv (b : Nat → Nat) (fr to : Nat) : Nat := if 3 < to - fr then 1000 else nvG b (to - fr) fr 0
def vl (b : Nat → Nat) (u i : Nat) : Nat := if i < u ∧ isDi (b i) = true then nv b i (rn isDi b u i) else 0
def pos (b : Nat → Nat) (u : Nat) : Nat → Nat
  | 0 => sk b u 0
  | k + 1 => nx b u (pos b u k)
section LEX
variable {b : Nat → Nat} {u i : Nat}
theorem en_gt (h : i < u) : i < en b u i := by
  unfold en
  by_cases c : isLe (b i) = true
  · rw [if_pos c]; exact rn_gt h c
  · rw [if_neg c]
    by_cases d : isDi (b i) = true
    · rw [if_pos d]; exact rn_gt h d
    · rw [if_neg d]; omega
theorem en_le (h : i < u) : en b u i ≤ u := by
  unfold en
  split
  · exact rn_le (by omega)
  · split
    · exact rn_le (by omega)
    · omega
theorem nx_gt (h : i < u) : i < nx b u i := Nat.lt_of_lt_of_le (en_gt h) rn_ge
theorem nx_le (h : i < u) : nx b u i ≤ u := rn_le (en_le h)
theorem sk_sk : sk b u (sk b u i) = sk b u i := rn_rn
theorem tok_u (h : ¬ i < u) : tok b u i = 0 := by unfold tok; rw [if_neg h]
theorem vl_u (h : ¬ i < u) : vl b u i = 0 := by unfold vl; rw [if_neg (fun z => h z.1)]
theorem sp_sp {fr to : Nat} : ∀ d o, o + d ≤ 35 → (spG b fr to d o = 2 ∧ ∀ q, o ≤ q → q < o + d → ¬ ((wt q).length = to - fr ∧ mtc b (wt q) fr = true)) ∨ (o ≤ spG b fr to d o ∧ spG b fr to d o < o + d ∧ (wt (spG b fr to d o)).length = to - fr ∧ mtc b (wt (spG b fr to d o)) fr = true ∧ ∀ q, o ≤ q → q < spG b fr to d o → ¬ ((wt q).length = to - fr ∧ mtc b (wt q) fr = true))
  | 0, o, _ => Or.inl ⟨rfl, fun q a b => by omega⟩
  | d + 1, o, h => by
    unfold spG
    by_cases c : (wt o).length = to - fr ∧ mtc b (wt o) fr = true
    · rw [if_pos c]; exact Or.inr ⟨Nat.le_refl _, by omega, c.1, c.2, fun q a b => by omega⟩
    · rw [if_neg c]
      rcases sp_sp (fr := fr) (to := to) d (o + 1) (by omega) with ⟨a1, a2⟩ | ⟨a1, a2, a3, a4, a5⟩
      · refine Or.inl ⟨a1, fun q q1 q2 => ?_⟩
        by_cases z : q = o
        · subst z; exact c
        · exact a2 q (by omega) (by omega)
      · refine Or.inr ⟨by omega, by omega, a3, a4, fun q q1 q2 => ?_⟩
        by_cases z : q = o
        · subst z; exact c
        · exact a5 q (by omega) q2
theorem wt_big {o : Nat} (h : 35 ≤ o) : wt o = [] := by
  unfold wt
  split <;> first | omega | rfl
theorem tok_lt : tok b u i < 35 := by
  unfold tok
  split
  · split
    · omega
    · rcases sp_sp (b := b) (fr := i) (to := en b u i) 35 0 (by omega) with ⟨e, -⟩ | ⟨-, e, -⟩ <;> omega
  · omega
theorem sp_ne {fr to : Nat} (h : fr < to) : spG b fr to 35 0 = 2 ∨ 3 ≤ spG b fr to 35 0 := by
  rcases sp_sp (b := b) (fr := fr) (to := to) 35 0 (by omega) with ⟨e, -⟩ | ⟨-, e, a3, -, -⟩
  · exact Or.inl e
  · generalize spG b fr to 35 0 = o at *
    rcases Nat.lt_or_ge o 3 with z | z
    · have : o = 0 ∨ o = 1 ∨ o = 2 := by omega
      rcases this with rfl | rfl | rfl
      · have : (wt 0).length = 0 := rfl
        omega
      · have : (wt 1).length = 0 := rfl
        omega
      · exact Or.inl rfl
    · exact Or.inr z
theorem tok_1 : tok b u i = 1 ↔ i < u ∧ isDi (b i) = true := by
  unfold tok
  by_cases h : i < u
  · rw [if_pos h]
    by_cases d : isDi (b i) = true
    · rw [if_pos d]; exact ⟨fun _ => ⟨h, d⟩, fun _ => rfl⟩
    · rw [if_neg d]
      have := sp_ne (b := b) (en_gt (b := b) h)
      exact ⟨fun z => by omega, fun z => absurd z.2 d⟩
  · rw [if_neg h]; exact ⟨fun z => by omega, fun z => absurd z.1 h⟩
theorem tok_0 : tok b u i = 0 ↔ ¬ i < u := by
  unfold tok
  by_cases h : i < u
  · rw [if_pos h]
    by_cases d : isDi (b i) = true
    · rw [if_pos d]; exact ⟨fun z => by omega, fun z => absurd h z⟩
    · rw [if_neg d]
      have := sp_ne (b := b) (en_gt (b := b) h)
      exact ⟨fun z => by omega, fun z => absurd h z⟩
  · rw [if_neg h]; exact ⟨fun _ => h, fun _ => rfl⟩
theorem nvG_b : ∀ d i v, (∀ j, i ≤ j → j < i + d → b j ≤ 57) → nvG b d i v ≤ 10 ^ d * (v + 1) - 1
  | 0, i, v, _ => by show v ≤ _; omega
  | d + 1, i, v, h => by
    have ih := nvG_b d (i + 1) (10 * v + (b i - 48)) (fun j a c => h j (by omega) (by omega))
    have := h i (Nat.le_refl _) (by omega)
    show nvG b d (i + 1) (10 * v + (b i - 48)) ≤ _
    have l1 : 10 * v + (b i - 48) + 1 ≤ 10 * (v + 1) := by omega
    have l2 := Nat.mul_le_mul_left (10 ^ d) l1
    have l3 : 10 ^ (d + 1) * (v + 1) = 10 ^ d * (10 * (v + 1)) := by rw [Nat.pow_succ, Nat.mul_assoc]
    omega
theorem nv_b {fr to : Nat} (h : ∀ j, fr ≤ j → j < to → b j ≤ 57) : nv b fr to ≤ 1000 := by
  unfold nv
  split
  · omega
  · rename_i c
    have := nvG_b (b := b) (to - fr) fr 0 (fun j a q => h j a (by omega))
    have l : to - fr = 0 ∨ to - fr = 1 ∨ to - fr = 2 ∨ to - fr = 3 := by omega
    rcases l with l | l | l | l <;> rw [l] at this ⊢ <;> omega
theorem vl_b : vl b u i ≤ 1000 := by
  unfold vl
  split
  · exact nv_b (fun j a c => by
      have := rn_in (f := isDi) a c
      unfold isDi at this
      have := of_decide_eq_true this; omega)
  · omega
end LEX
/-! the constants, as they stand in the old heap -/
def StrAt (G : Gx) (h : Hp) (sa : Nat) (w : List Nat) : Prop := G.oc sa = 2 ∧ G.of 3 sa = .int 0 ∧ ∃ ba, G.of 2 sa = .ref ba ∧ ba < G.n0 ∧ h.1 ba = (103, w.length) ∧ ∀ j c, w[j]? = some c → h.2.1 ba j = .int (nI c)
theorem e_JP_cix {G : Gx} (hl : G.1.stackTraces = false) (h : Hp) (P : Res → Hp → Prop) (l0 : Int32) (l1 : Int32) (H : (l0 < 0 → False) ∧ (¬ l0 < 0 → (l0 < l1 → P (.inl (some (.int l0))) h) ∧ (¬ l0 < l1 → False))) : Ev G m_JP_checkIndex 0 [.int l0, .int l1, un] [] h 0 0 P := wp_sound hl (tk_JP_checkIndex) (n := 14) (i := 0) (ct := ct_JP_checkIndex) rfl H
theorem en_JP_cix {G : Gx} {h : Hp} {P : Res → Hp → Prop} {l0 l1 : Int32} {v : Value} (hv : v.category = 1) (k : Ev G m_JP_checkIndex 0 [.int l0, .int l1, un] [] h 0 0 P) : EvM G m_JP_checkIndex [.int l0, .int l1, v] h P := EvM.of (by decide) (fun w hw => by
  simp only [List.mem_cons, List.not_mem_nil, or_false] at hw
  rcases hw with rfl | rfl | rfl
  · rfl
  · rfl
  · exact hv) (by show 3 ≤ 3; decide) (Ev.kill 2 k)
/-- the addresses of the words and signs -/
def Old (G : Gx) (h : Hp) (tk : Nat → Nat) : Prop :=
  (∀ o, o < 35 → G.st (sti o) = .ref (tk o) ∧ G.oc (tk o) = 1 ∧ G.of 1 (tk o) = .int (opI o) ∧ ∃ sa, G.of 0 (tk o) = .ref sa ∧ StrAt G h sa (wt o)) ∧ (∀ o q, o < 35 → q < 35 → tk o = tk q → o = q) ∧
  (∃ al, G.st 1 = .ref al ∧ al < G.n0 ∧ h.1 al = (105, 35) ∧ ∀ o, o < 35 → h.2.1 al o = .ref (tk o)) ∧ (∃ c, G.st 2 = .int c ∧ c ≠ 0) ∧ (G.st 3).category = 1
theorem wt_c : ∀ o, o < 35 → (wt o).length ≤ 9 ∧ ∀ c, c ∈ wt o → c < 128 := by decide +kernel
section OLD
variable {G : Gx} {h h' : Hp} {tk : Nat → Nat} {x : Nat} {b : Nat → Nat} {n u : Nat}
theorem StrAt.keep {sa : Nat} {w : List Nat} (S : StrAt G h sa w) (e : ∀ a, a < G.n0 → h'.1 a = h.1 a ∧ h'.2.1 a = h.2.1 a) : StrAt G h' sa w := by
  obtain ⟨s1, s2, ba, s3, s4, s5, s6⟩ := S
  exact ⟨s1, s2, ba, s3, s4, by rw [(e ba s4).1]; exact s5, fun j c hj => by rw [(e ba s4).2]; exact s6 j c hj⟩
theorem Old.keep (O : Old G h tk) (e : ∀ a, a < G.n0 → h'.1 a = h.1 a ∧ h'.2.1 a = h.2.1 a) : Old G h' tk := by
  obtain ⟨o1, o2, ⟨al, a1, a2, a3, a4⟩, o4, o5⟩ := O
  exact ⟨fun o ho => by
    obtain ⟨p1, p2, p3, sa, p4, p5⟩ := o1 o ho
    exact ⟨p1, p2, p3, sa, p4, p5.keep e⟩, o2, ⟨al, a1, a2, by rw [(e al a2).1]; exact a3, fun o ho => by rw [(e al a2).2]; exact a4 o ho⟩, o4, o5⟩
theorem Old.keepF (O : Old G h tk) {P : Nat → Nat → Prop} (F : Fs P h h') (n : ∀ a j, P a j → G.n0 ≤ a) : Old G h' tk := O.keep (fun a ha => ⟨by rw [F.1], funext fun j => F.2.2 a j (fun z => by have := n a j z; omega)⟩)
theorem s_length (hl : G.1.stackTraces = false) (O : Old G h tk) {sa : Nat} {w : List Nat} (S : StrAt G h sa w) (hw : w.length ≤ 9) : EvI G m_JS_length [.ref sa] h (nI w.length) := by
  obtain ⟨s1, s2, ba, s3, s4, s5, s6⟩ := S
  obtain ⟨-, -, -, ⟨c, c1, c2⟩, -⟩ := O
  have co : EvI G m_JS_coder [.ref sa] h 0 := en_JS_coder h _ _ (e_JS_coder_0 hl h _ _ ⟨c, c1, fun z => absurd z c2, fun _ => ⟨0, s2, rfl, rfl, rfl⟩⟩)
  refine en_JS_length h _ _ (e_JS_length_0 hl h _ _ ⟨_, s3, w.length, s5, s1, _, co, ?_, rfl⟩)
  have : ∀ k, k ≤ 9 → (k.toInt32 >>> ((0 : Int32) &&& 31)) = nI k := by decide +kernel
  rw [this _ hw]
theorem ch_16 : ∀ c, c < 128 → (((nI c &&& 255).toUInt32 % 65536).toInt32) = nI c ∧ narrow .char (.int (nI c)) = .int (nI c) := by decide +kernel
theorem s_charAt (hl : G.1.stackTraces = false) (O : Old G h tk) {sa j c : Nat} {w : List Nat} (S : StrAt G h sa w) (hw : w.length ≤ 9) (hj : w[j]? = some c) (hc : c < 128) : EvI G m_JS_charAt [.ref sa, .int (nI j)] h (nI c) := by
  obtain ⟨s1, s2, ba, s3, s4, s5, s6⟩ := S
  obtain ⟨-, -, -, ⟨cc, c1, c2⟩, hf⟩ := O
  have jl : j < w.length := (List.getElem?_eq_some_iff.mp hj).1
  have la : EvI G m_JS_isLatin1 [.ref sa] h 1 := en_JS_isLatin1 h _ _ (e_JS_isLatin1_0 hl h _ _ ⟨cc, c1, fun z => absurd z c2, fun _ => ⟨0, s2, fun z => absurd rfl z, fun _ => ⟨rfl, rfl⟩⟩⟩)
  have ck : EvI G m_JP_checkIndex [.int (nI j), .int w.length.toInt32, (G.st 3)] h (nI j) := by
    exact en_JP_cix hf (e_JP_cix hl h _ _ _ ⟨fun z => absurd z (nI_pos (by omega)), fun _ => ⟨fun _ => ⟨rfl, rfl⟩, fun z => absurd (show nI j < nI w.length from nI_lt jl (by omega)) z⟩⟩)
  have c2' : EvM G m_JS_checkIndex [.int (nI j), .int w.length.toInt32] h (fun o h' => o = .inl none ∧ h' = h) := en_JS_checkIndex h _ _ _ (e_JS_checkIndex_0 hl h _ _ _ ⟨_, ck, rfl, rfl⟩)
  have q := ch_16 c hc
  have lc : EvI G m_JL_charAt [.ref ba, .int (nI j)] h (nI c) := by
    refine en_JL_charAt h _ _ _ (e_JL_charAt_0 hl h _ _ _ ⟨w.length, s5, _, c2', fun o h1 z => Or.inl ⟨z.1, ?_⟩⟩)
    rw [z.2]
    refine ⟨nI c, aI_of s5 jl (by omega) (s6 j c hj), ?_⟩
    rw [q.1]; exact ⟨q.2, rfl, rfl⟩
  refine en_JS_charAt h _ _ _ (e_JS_charAt_0 hl h _ _ _ ⟨s1, _, la, fun z => absurd z (by decide), fun _ => ⟨_, s3, _, lc, fun o h1 z => Or.inl ⟨_, z.1, q.2, ?_⟩⟩⟩)
  rw [z.2]; exact ⟨rfl, rfl⟩
theorem mtc_f {w : List Nat} {j c i : Nat} (hj : w[j]? = some c) (hb : ¬ b (i + j) = c) : mtc b w i = false := by
  induction w generalizing i j with
  | nil => simp at hj
  | cons a w ih =>
    unfold mtc
    cases j with
    | zero => simp at hj; subst hj; simp [show ¬ b i = a from hb]
    | succ j =>
      have : mtc b w (i + 1) = false := ih (j := j) (i := i + 1) (by simpa using hj) (by rw [show i + 1 + j = i + (j + 1) by omega]; exact hb)
      rw [this, Bool.and_false]
theorem mtc_t {w : List Nat} {i : Nat} (h : ∀ j c, w[j]? = some c → b (i + j) = c) : mtc b w i = true := by
  induction w generalizing i with
  | nil => rfl
  | cons a w ih =>
    unfold mtc
    have h0 := h 0 a rfl
    rw [Nat.add_zero] at h0
    rw [ih (i := i + 1) (fun j c hj => by rw [show i + 1 + j = i + (j + 1) by omega]; exact h (j + 1) c (by simpa using hj))]
    simp [h0]
theorem t_isAt (hl : G.1.stackTraces = false) (O : Old G h tk) (Tp : TpC h x b n u) {o fr to : Nat} (ho : o < 35) (h1 : fr < to) (h2 : to ≤ u) : EvI G m_To_isAt [.ref (tk o), .ref (x + 1), .int (nI fr), .int (nI to)] h (if (wt o).length = to - fr ∧ mtc b (wt o) fr = true then 1 else 0) := by
  have u4 := Tp.u400
  obtain ⟨p1, p2, p3, sa, p4, S⟩ := O.1 o ho
  obtain ⟨w1, w2⟩ := wt_c o ho
  have ln := s_length hl O S w1
  have bb : ∀ j, j < u → b j < 256 := fun j hj => (Tp.2.2.2.2.2.2 j (by omega)).1
  refine en_To_isAt h _ _ _ _ _ (e_To_isAt_0 hl h _ _ _ _ _ ⟨_, p4, S.1, _, ln, fun c => ?_, fun c => ⟨?_, rfl⟩⟩)
  · rw [pk_sub (by omega)] at c
    have c' := (nI_eq (by omega) (by omega)).mp c
    suffices hh : ∀ d j, j + d = (wt o).length → (∀ i c, i < j → (wt o)[i]? = some c → b (fr + i) = c) → Ev G m_To_isAt 18 [.ref (tk o), .ref (x + 1), .int (nI fr), un, .int (nI j)] [] h 0 0 (fun r h' => r = .inl (some (.int (if (wt o).length = to - fr ∧ mtc b (wt o) fr = true then 1 else 0))) ∧ h' = h) from hh (wt o).length 0 (by omega) (fun i c hi => by omega)
    intro d
    induction d with
    | zero =>
      intro j hj pre
      refine e_To_isAt_18 hl h _ _ _ _ _ ⟨_, p4, S.1, _, ln, fun _ => ⟨?_, rfl⟩, fun z => absurd (by rw [show j = (wt o).length from hj]; exact Int32.le_refl _) z⟩
      rw [if_pos ⟨c', mtc_t (fun i c hi => pre i c (by have := (List.getElem?_eq_some_iff.mp hi).1; omega) hi)⟩]
    | succ d ih =>
      intro j hj pre
      obtain ⟨cc, hc⟩ : ∃ cc, (wt o)[j]? = some cc := ⟨_, List.getElem?_eq_getElem (by omega)⟩
      have c128 := w2 cc (List.mem_of_getElem? hc)
      have := bb (fr + j) (by omega)
      refine e_To_isAt_18 hl h _ _ _ _ _ ⟨_, p4, S.1, _, ln, fun z => absurd z (nI_ge (by omega) (by omega)), fun _ => ⟨_, p4, S.1, _, s_charAt hl O S w1 hc c128, Tp.kd, nI (b (fr + j)), by rw [nI_add]; exact t_at hl Tp (by omega), fun z => ?_, fun z => ⟨?_, rfl⟩⟩⟩
      · have z' := (nI_eq (by omega) (by omega)).mp z
        rw [nI_1]
        exact ih (j + 1) (by omega) (fun i c hi hic => by
          by_cases y : i = j
          · subst y; rw [hc] at hic; rw [← z']; exact Option.some.inj hic
          · exact pre i c (by omega) hic)
      · rw [if_neg (fun y => by rw [mtc_f hc (fun q => z (by rw [q]))] at y; exact absurd y.2 (by decide))]
  · rw [pk_sub (by omega)] at c
    rw [if_neg (fun y => c (by rw [y.1]))]
theorem t_spelt (hl : G.1.stackTraces = false) (O : Old G h tk) (Tp : TpC h x b n u) {fr to : Nat} (h1 : fr < to) (h2 : to ≤ u) : EvM G m_To_spelt [.ref (x + 1), .int (nI fr), .int (nI to)] h (fun r h' => r = .inl (some (.ref (tk (spG b fr to 35 0)))) ∧ h' = h) := by
  obtain ⟨al, a1, a2, a3, a4⟩ := O.2.2.1
  refine en_To_spelt h _ _ _ _ (e_To_spelt_0 hl h _ _ _ _ ?_)
  suffices hh : ∀ d o, o + d = 35 → Ev G m_To_spelt 2 [.ref (x + 1), .int (nI fr), .int (nI to), .int (nI o)] [] h 0 0 (fun r h' => r = .inl (some (.ref (tk (spG b fr to d o)))) ∧ h' = h) from hh 35 0 rfl
  intro d
  induction d with
  | zero =>
    intro o ho
    exact e_To_spelt_2 hl h _ _ _ _ _ ⟨_, a1, 35, a3, fun _ => ⟨_, (O.1 2 (by decide)).1, rfl, rfl⟩, fun z => absurd (show nI 35 ≤ nI o from nI_le (by omega) (by omega)) z⟩
  | succ d ih =>
    intro o ho
    have ar : aR h 105 al (nI o) (tk o) := aR_of a3 (by omega) (by decide) (a4 o (by omega))
    refine e_To_spelt_2 hl h _ _ _ _ _ ⟨_, a1, 35, a3, fun z => absurd z (show ¬ nI 35 ≤ nI o from nI_ge (by omega) (by decide)), fun _ => ⟨_, a1, _, ar, (O.1 o (by omega)).2.1, _, t_isAt hl O Tp (by omega) h1 h2, fun z => ?_, fun z => ⟨_, a1, _, ar, ?_, rfl⟩⟩⟩
    · rw [nI_1]; unfold spG; rw [if_neg (ite0 z)]; exact ih (o + 1) (by omega)
    · unfold spG; rw [if_pos (ite1 z)]
end OLD
