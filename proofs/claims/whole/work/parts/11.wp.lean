/-! ===== what must hold ahead of a piece of code ===== -/
/-- place, instruction, length, op, three numbers, a word's place, a constant -/
abbrev Ent : Type := Nat × Instr × Nat × Nat × Nat × Nat × Nat × Nat × Int32
def fI (h : Hp) (kd a k : Nat) (x : Int32) : Prop := (h.1 a).1 = kd ∧ h.2.1 a k = .int x
def fR (h : Hp) (kd a k b : Nat) : Prop := (h.1 a).1 = kd ∧ h.2.1 a k = .ref b
def fW (G : Gx) (h : Hp) (kd a : Nat) : Prop := G.n0 ≤ a ∧ (h.1 a).1 = kd
def aI (h : Hp) (kd a : Nat) (i x : Int32) : Prop := ∃ n, h.1 a = (kd, n) ∧ vp_in i n ∧ h.2.1 a i.toNatClampNeg = .int x
def aR (h : Hp) (kd a : Nat) (i : Int32) (b : Nat) : Prop := ∃ n, h.1 a = (kd, n) ∧ vp_in i n ∧ h.2.1 a i.toNatClampNeg = .ref b
def aL (h : Hp) (a : Nat) (i : Int32) (x : Int64) : Prop := ∃ n, h.1 a = (104, n) ∧ vp_in i n ∧ h.2.1 a i.toNatClampNeg = .long x
def aW (G : Gx) (h : Hp) (kd a : Nat) (i : Int32) : Prop := G.n0 ≤ a ∧ ∃ n, h.1 a = (kd, n) ∧ vp_in i n
def aN (h : Hp) (kd a n : Nat) : Prop := h.1 a = (kd, n)
def rK (G : Gx) (h : Hp) (kd b : Nat) : Prop := if kd < 200 then (h.1 b).1 = kd else G.oc b = kd - 200
def EvI (G : Gx) (q : Mr) (args : List Value) (h : Hp) (x : Int32) : Prop := EvM G q args h (fun o h' => o = .inl (some (.int x)) ∧ h' = h)
def bret (x : Int32) (P : Prop) : Prop := if x = 0 then P else if x = 1 then P else False
theorem bret_of {x : Int32} {P : Prop} (h : x = 0 ∨ x = 1) (p : P) : bret x P := by
  unfold bret
  split
  · exact p
  · split
    · exact p
    · rcases h with h | h <;> contradiction
theorem bret_in {x : Int32} {P : Prop} (h : bret x P) : (x = 0 ∨ x = 1) ∧ P := by
  unfold bret at h
  split at h
  · exact ⟨Or.inl ‹_›, h⟩
  · split at h
    · exact ⟨Or.inr ‹_›, h⟩
    · exact h.elim
def bop (a : Nat) (x y : Int32) : Int32 := match a with
  | 0 => x + y
  | 1 => x - y
  | 2 => x * y
  | 3 => x &&& y
  | 4 => x ||| y
  | 5 => x ^^^ y
  | 6 => x <<< (y &&& 31)
  | 7 => x >>> (y &&& 31)
  | _ => (x.toUInt32 >>> (y.toUInt32 &&& Int32.toUInt32 31)).toInt32
def imax (x y : Int32) : Int32 := if x < y then y else x
def imin (x y : Int32) : Int32 := if y < x then y else x
def uop (a : Nat) (x : Int32) : Int32 := match a with
  | 0 => -x
  | 1 => x.toInt8.toInt32
  | _ => (x.toUInt32 % 65536).toInt32
def br1 (a : Nat) (x : Int32) (P Q : Prop) : Prop := match a with
  | 0 => (x = 0 → P) ∧ (¬ x = 0 → Q)
  | 1 => (¬ x = 0 → P) ∧ (x = 0 → Q)
  | 2 => (x < 0 → P) ∧ (¬ x < 0 → Q)
  | 3 => (0 ≤ x → P) ∧ (¬ 0 ≤ x → Q)
  | 4 => (0 < x → P) ∧ (¬ 0 < x → Q)
  | _ => (x ≤ 0 → P) ∧ (¬ x ≤ 0 → Q)
def br2 (a : Nat) (x y : Int32) (P Q : Prop) : Prop := match a with
  | 0 => (x = y → P) ∧ (¬ x = y → Q)
  | 1 => (¬ x = y → P) ∧ (x = y → Q)
  | 2 => (x < y → P) ∧ (¬ x < y → Q)
  | 3 => (y ≤ x → P) ∧ (¬ y ≤ x → Q)
  | 4 => (y < x → P) ∧ (¬ y < x → Q)
  | _ => (x ≤ y → P) ∧ (¬ x ≤ y → Q)
def cndI (a : Nat) : Jvm.ClassFile.Cond := match a with
  | 0 => .eq
  | 1 => .ne
  | 2 => .lt
  | 3 => .ge
  | 4 => .gt
  | _ => .le
/-- the cases of a switch -/
def swP (K : Nat → Prop) : List Nat → Int32 → Int32 → Prop
  | [], _, _ => True
  | t :: ts, v, x => (x = v → K t) ∧ swP K ts (v + 1) x
def dflt (ci k : Nat) : Value := match cls[ci]? with
  | some q => (match parseFieldDescriptor (q.2.1 k).2.2.1 with | some ty => defaultValue ty | none => .null)
  | none => .null
def clsN (ci : Nat) : Nat := match cls[ci]? with | some q => q.2.2 | none => 0
def excs (a : Nat) : String := match a with
  | 0 => "java/lang/IllegalArgumentException"
  | 1 => "java/lang/IllegalStateException"
  | 2 => "java/lang/IndexOutOfBoundsException"
  | 3 => "java/lang/UnsupportedOperationException"
  | _ => "java/util/NoSuchElementException"
def gd (l : List Value) (P : Prop) : Prop := if l.length ≤ 4 then P else False
def gs (n : Nat) (l : List Value) (P : Prop) : Prop := if n ≤ l.length ∧ (l.drop n).length ≤ 4 then P else False
def gp (d n : Nat) (P : Prop) : Prop := if n ≤ d then P else False
def gz (q : Mr) (P : Prop) : Prop := if q.mc = 0 ∧ q.ms = 0 then P else False
abbrev Kt : Type := Nat → List Value → List Value → Hp → Nat → Nat → Prop
def bud (r q : Mr) (cs ss : Nat) (P : Nat → Nat → Prop) : Prop := if q.mc = 0 ∧ q.ms = 0 then P cs ss else (cs + q.mc ≤ r.mc ∧ ss + q.ms ≤ r.ms) ∧ P (cs + q.mc) (ss + q.ms)
/-- one instruction: what must hold ahead of it, K being what must hold ahead of others -/
def stepw (G : Gx) (r : Mr) (cl : List (Mr × Nat × Nat)) (sw : List (List Nat)) (K : Kt) (i op a b c : Nat) (v : Int32) (L st : List Value) (h : Hp) (cs ss : Nat) (Post : Res → Hp → Prop) : Prop := match op with
  | 1 => match L[a]? with | some (.int x) => K (i + 1) L (.int x :: st) h cs ss | _ => False
  | 2 => match L[a]? with | some (.ref x) => K (i + 1) L (.ref x :: st) h cs ss | _ => False
  | 3 => match st with | .int x :: st => K (i + 1) (L.set a (.int x)) st h cs ss | _ => False
  | 4 => match st with | .ref x :: st => K (i + 1) (L.set a (.ref x)) st h cs ss | _ => False
  | 5 => K (i + 1) L (.int v :: st) h cs ss
  | 6 => match L[a]? with | some (.int x) => K (i + 1) (L.set a (.int (x + v))) st h cs ss | _ => False
  | 7 => match st with | .int y :: .int x :: st => K (i + 1) L (.int (bop a x y) :: st) h cs ss | _ => False
  | 8 => match st with | .int y :: .int x :: st => ¬ y = 0 ∧ K (i + 1) L (.int (x / y) :: st) h cs ss | _ => False
  | 9 => match st with | .int y :: .int x :: st => ¬ y = 0 ∧ K (i + 1) L (.int (x - x / y * y) :: st) h cs ss | _ => False
  | 10 => match st with | .int x :: st => K (i + 1) L (.int (uop a x) :: st) h cs ss | _ => False
  | 11 => match st with | .int x :: st => K (i + 1) L (.long x.toInt64 :: st) h cs ss | _ => False
  | 12 => match st with | .long y :: .long x :: st => K (i + 1) L (.int (lg_cmp x y) :: st) h cs ss | _ => False
  | 13 => K (i + 1) L (.long (Int64.ofNat a) :: st) h cs ss
  | 14 => match st with | .int x :: st => K (i + 1) L (.int x :: .int x :: st) h cs ss | .ref x :: st => K (i + 1) L (.ref x :: .ref x :: st) h cs ss | _ => False
  | 15 => match st with | .int x :: .ref y :: st => K (i + 1) L (.int x :: .ref y :: .int x :: .ref y :: st) h cs ss | _ => False
  | 16 => match st with | .int _ :: st => K (i + 1) L st h cs ss | _ => False
  | 17 => match st with | .int x :: st => br1 a x (K b L st h cs ss) (K (i + 1) L st h cs ss) | _ => False
  | 18 => match st with | .int y :: .int x :: st => br2 a x y (K b L st h cs ss) (K (i + 1) L st h cs ss) | _ => False
  | 19 => match st with | .ref y :: .ref x :: st => (match a with | 0 => (x = y → K b L st h cs ss) ∧ (¬ x = y → K (i + 1) L st h cs ss) | _ => (¬ x = y → K b L st h cs ss) ∧ (x = y → K (i + 1) L st h cs ss)) | _ => False
  | 20 => K b L st h cs ss
  | 21 => match st, sw[a]? with | .int x :: st, some ts => swP (fun t => K t L st h cs ss) ts v x ∧ (x < v ∨ v + Int32.ofNat ts.length ≤ x → K b L st h cs ss) | _, _ => False
  | 22 => match st with | .ref p :: st => ∃ x, fI h (a + 1) p b x ∧ K (i + 1) L (.int x :: st) h cs ss | _ => False
  | 23 => match st with | .ref p :: st => ∃ x, fR h (a + 1) p b x ∧ K (i + 1) L (.ref x :: st) h cs ss | _ => False
  | 24 => match c, st with
    | 0, .int x :: .ref p :: st => fW G h (a + 1) p ∧ K (i + 1) L st (hset h p b (.int x)) cs ss
    | 1, .int x :: .ref p :: st => bret x (fW G h (a + 1) p ∧ K (i + 1) L st (hset h p b (.int x)) cs ss)
    | 2, .ref x :: .ref p :: st => fW G h (a + 1) p ∧ K (i + 1) L st (hset h p b (.ref x)) cs ss
    | _, _ => False
  | 25 => match st with | .int j :: .ref p :: st => ∃ x, aI h a p j x ∧ K (i + 1) L (.int x :: st) h cs ss | _ => False
  | 26 => match st with | .int j :: .ref p :: st => ∃ x, aR h a p j x ∧ K (i + 1) L (.ref x :: st) h cs ss | _ => False
  | 27 => match st with | .int j :: .ref p :: st => ∃ x, aL h p j x ∧ K (i + 1) L (.long x :: st) h cs ss | _ => False
  | 28 => match st with | .int x :: .int j :: .ref p :: st => aW G h 101 p j ∧ K (i + 1) L st (hset h p j.toNatClampNeg (.int x)) cs ss | _ => False
  | 29 => match st with | .int x :: .int j :: .ref p :: st => bret x (aW G h 102 p j ∧ K (i + 1) L st (hset h p j.toNatClampNeg (.int x)) cs ss) | _ => False
  | 30 => match st with | .int x :: .int j :: .ref p :: st => narrow .byte (.int x) = .int x ∧ aW G h 103 p j ∧ K (i + 1) L st (hset h p j.toNatClampNeg (.int x)) cs ss | _ => False
  | 31 => match st with | .long x :: .int j :: .ref p :: st => aW G h 104 p j ∧ K (i + 1) L st (hset h p j.toNatClampNeg (.long x)) cs ss | _ => False
  | 32 => match st with | .ref x :: .int j :: .ref p :: st => rK G h b x ∧ aW G h a p j ∧ K (i + 1) L st (hset h p j.toNatClampNeg (.ref x)) cs ss | _ => False
  | 33 => match st with | .ref p :: st => ∃ n, aN h a p n ∧ K (i + 1) L (.int n.toInt32 :: st) h cs ss | _ => False
  | 34 => (cs + 1 ≤ r.mc ∧ ss + clsN a ≤ r.ms) ∧ K (i + 1) L (.ref h.2.2 :: st) (hnew h (a + 1, clsN a) (dflt a)) (cs + 1) (ss + clsN a)
  | 35 => match st with | .int n :: st => (¬ n < 0 ∧ n ≤ 65536) ∧ (cs + 1 ≤ r.mc ∧ ss + n.toNatClampNeg ≤ r.ms) ∧ K (i + 1) L (.ref h.2.2 :: st) (hnew h (101 + a, n.toNatClampNeg) (fun _ => defaultValue (aty a))) (cs + 1) (ss + n.toNatClampNeg) | _ => False
  | 36 => match st with | .int n :: st => (¬ n < 0 ∧ n ≤ 65536) ∧ (cs + 1 ≤ r.mc ∧ ss + n.toNatClampNeg ≤ r.ms) ∧ K (i + 1) L (.ref h.2.2 :: st) (hnew h (101 + a, n.toNatClampNeg) (fun _ => .null)) (cs + 1) (ss + n.toNatClampNeg) | _ => False
  | 37 => match c with | 0 => ∃ x, G.st a = .ref x ∧ K (i + 1) L (.ref x :: st) h cs ss | 1 => ∃ x, G.st a = .int x ∧ K (i + 1) L (.int x :: st) h cs ss | _ => K (i + 1) L (G.st a :: st) h cs ss
  | 38 => match st with | .ref p :: st => (match c with | 0 => ∃ x, G.of a p = .ref x ∧ K (i + 1) L (.ref x :: st) h cs ss | _ => ∃ x, G.of a p = .int x ∧ K (i + 1) L (.int x :: st) h cs ss) | _ => False
  | 39 => K (i + 1) L (.ref (G.lit a) :: st) h cs ss
  | 40 => match cl[a]? with
    | some (q, n, _) => (match c with
      | 0 => gs n st (gz q (∃ x, EvI G q (st.take n).reverse h x ∧ K (i + 1) L (.int x :: st.drop n) h cs ss))
      | c => match st.drop n with | .ref p :: s2 => gd s2 (gz q (rK G h c p ∧ ∃ x, EvI G q (.ref p :: (st.take n).reverse) h x ∧ K (i + 1) L (.int x :: s2) h cs ss)) | _ => False)
    | none => False
  | 41 => match cl[a]? with
    | some (q, n, _) => (match c with
      | 0 => gs n st (∃ P1, EvM G q (st.take n).reverse h P1 ∧ bud r q cs ss (fun cs ss => ∀ o h', P1 o h' → (o = .inl none ∧ K (i + 1) L (st.drop n) h' cs ss) ∨ (∃ E, o = .inr E ∧ Post (.inr E) h')))
      | c => match st.drop n with | .ref p :: s2 => gd s2 (rK G h c p ∧ ∃ P1, EvM G q (.ref p :: (st.take n).reverse) h P1 ∧ bud r q cs ss (fun cs ss => ∀ o h', P1 o h' → (o = .inl none ∧ K (i + 1) L s2 h' cs ss) ∨ (∃ E, o = .inr E ∧ Post (.inr E) h'))) | _ => False)
    | none => False
  | 42 => match cl[a]? with
    | some (q, n, _) => (match c with
      | 0 => gs n st (∃ P1, EvM G q (st.take n).reverse h P1 ∧ bud r q cs ss (fun cs ss => ∀ o h', P1 o h' → (∃ x, o = .inl (some (.int x)) ∧ K (i + 1) L (.int x :: st.drop n) h' cs ss) ∨ (∃ E, o = .inr E ∧ Post (.inr E) h')))
      | c => match st.drop n with | .ref p :: s2 => gd s2 (rK G h c p ∧ ∃ P1, EvM G q (.ref p :: (st.take n).reverse) h P1 ∧ bud r q cs ss (fun cs ss => ∀ o h', P1 o h' → (∃ x, o = .inl (some (.int x)) ∧ K (i + 1) L (.int x :: s2) h' cs ss) ∨ (∃ E, o = .inr E ∧ Post (.inr E) h'))) | _ => False)
    | none => False
  | 43 => match cl[a]? with
    | some (q, n, _) => (match c with
      | 0 => gs n st (∃ P1, EvM G q (st.take n).reverse h P1 ∧ bud r q cs ss (fun cs ss => ∀ o h', P1 o h' → (∃ x, o = .inl (some (.ref x)) ∧ K (i + 1) L (.ref x :: st.drop n) h' cs ss) ∨ (∃ E, o = .inr E ∧ Post (.inr E) h')))
      | c => match st.drop n with | .ref p :: s2 => gd s2 (rK G h c p ∧ ∃ P1, EvM G q (.ref p :: (st.take n).reverse) h P1 ∧ bud r q cs ss (fun cs ss => ∀ o h', P1 o h' → (∃ x, o = .inl (some (.ref x)) ∧ K (i + 1) L (.ref x :: s2) h' cs ss) ∨ (∃ E, o = .inr E ∧ Post (.inr E) h'))) | _ => False)
    | none => False
  | 44 => match cl[a]? with
    | some (q, n, _) => (match st.drop n with | .ref p :: s2 => gd s2 (∃ P1, EvM G q (.ref p :: (st.take n).reverse) h P1 ∧ bud r q cs ss (fun cs ss => ∀ o h', P1 o h' → o = .inl none ∧ K (i + 1) L s2 h' cs ss)) | _ => False)
    | none => False
  | 46 => match st with | .ref _ :: st => gd st (gp r.dp 1 (K (i + 1) L st h cs ss)) | _ => False
  | 47 => match st with | [.int x] => (match c with | 0 => Post (.inl (some (.int x))) h | 1 => bret x (Post (.inl (some (.int x))) h) | 2 => narrow .byte (.int x) = .int x ∧ Post (.inl (some (.int x))) h | _ => narrow .char (.int x) = .int x ∧ Post (.inl (some (.int x))) h) | _ => False
  | 48 => match st with | [.ref x] => Post (.inl (some (.ref x))) h | _ => False
  | 49 => match st with | [] => Post (.inl none) h | _ => False
  | 50 => gd st (gp r.dp 6 (if cs + 1 ≤ r.mc ∧ ss + 6 ≤ r.ms then ∀ n', h.2.2 ≤ n' → Post (.inr (excs a)) (h.1, h.2.1, n') else False))
  | 51 => match st with | .int n :: .int d :: .ref p :: .int s :: .ref p0 :: st => gd st (gp r.dp 1 ((d = 0 ∧ s = 0) ∧ (∃ n0 n1, (aN h 101 p0 n0 ∧ aN h 101 p n1) ∧ ¬ n < 0 ∧ n.toNatClampNeg ≤ n0 ∧ n.toNatClampNeg ≤ n1) ∧ G.n0 ≤ p ∧ (∀ j, j < n.toNatClampNeg → ∃ x, h.2.1 p0 j = .int x) ∧ K (i + 1) L st (hcpy h p0 p n.toNatClampNeg) cs ss)) | _ => False
  | 52 => match st with | .ref p :: st => gd st (gp r.dp 1 (∃ n, aN h 101 p n ∧ G.n0 ≤ p ∧ (∀ j, j < n → ∃ x, h.2.1 p j = .int x) ∧ (cs + 1 ≤ r.mc ∧ ss + n ≤ r.ms) ∧ K (i + 1) L (.ref h.2.2 :: st) (hnew h (101, n) (h.2.1 p)) (cs + 1) (ss + n))) | _ => False
  | 53 => match st with | .ref p :: st => (∃ n, aN h 101 p n ∧ G.n0 ≤ p) ∧ K (i + 1) L (.ref p :: st) h cs ss | _ => False
  | 54 => match st with | .int y :: .int x :: st => gd st (gp r.dp 1 (K (i + 1) L (.int (imax x y) :: st) h cs ss)) | _ => False
  | 55 => match st with | .int y :: .int x :: st => gd st (gp r.dp 1 (K (i + 1) L (.int (imin x y) :: st) h cs ss)) | _ => False
  | _ => False
