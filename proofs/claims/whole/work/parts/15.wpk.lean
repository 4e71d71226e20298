/-! ===== a piece of a method, from a place on to its cuts ===== -/
def ctOf (ct : List (Nat × List Nat)) (i : Nat) : Option (List Nat) := match ct with
  | [] => none
  | (j, ds) :: ct => if i = j then some ds else ctOf ct i
def wpK (G : Gx) (r : Mr) (cl : List (Mr × Nat × Nat)) (sw : List (List Nat)) (tb : List Ent) (ct : List (Nat × List Nat)) (Post : Res → Hp → Prop) : Nat → Kt
  | 0 => fun _ _ _ _ _ _ => False
  | n + 1 => fun i L st h cs ss => match tb[i]? with
    | some (pc, _, _, op, a, b, c, _, v) => (match ctOf ct i with
      | some ds => Ev G r pc (ds.foldl (fun L d => L.set d un) L) st h cs ss Post
      | none => stepw G r cl sw (wpK G r cl sw tb ct Post n) i op a b c v L st h cs ss Post)
    | none => False
def wp (G : Gx) (r : Mr) (cl : List (Mr × Nat × Nat)) (sw : List (List Nat)) (tb : List Ent) (ct : List (Nat × List Nat)) (Post : Res → Hp → Prop) (n i : Nat) (L st : List Value) (h : Hp) (cs ss : Nat) : Prop := match tb[i]? with
  | some (_, _, _, op, a, b, c, _, v) => stepw G r cl sw (wpK G r cl sw tb ct Post n) i op a b c v L st h cs ss Post
  | none => False
section WPS
variable {G : Gx} {r : Mr} {cl : List (Mr × Nat × Nat)} {sw : List (List Nat)} {tb : List Ent} {ct : List (Nat × List Nat)} {Post : Res → Hp → Prop}
theorem wpK_ok (hl0 : G.1.stackTraces = false) (hT : TOK r cl sw tb) : ∀ n, KOK G r tb Post (wpK G r cl sw tb ct Post n) := by
  intro n
  induction n with
  | zero => exact fun _ _ _ _ _ _ H => H.elim
  | succ n ih =>
    intro j L st h cs ss H
    unfold wpK at H
    split at H
    · rename_i pc ins len op a b c w v he
      refine ⟨_, he, ?_⟩
      split at H
      · exact Ev.kills _ L H
      · have hok : eok r.1.cls r.1.name r.2.1 r.ml r.rt (cl.map fun q => (q.1.1, q.2.1, q.2.2)) sw tb j pc ins len op a b c w v = true := hT.1 j (pc, ins, len, op, a, b, c, w, v) he
        exact stepw_sound hT.2 hl0 ih hok H
    · exact H.elim
theorem wp_sound (hl0 : G.1.stackTraces = false) (hT : TOK r cl sw tb) {n i pc : Nat} {L st : List Value} {h : Hp} {cs ss : Nat} (hp : pcAt tb i = pc) (H : wp G r cl sw tb ct Post n i L st h cs ss) : Ev G r pc L st h cs ss Post := by
  unfold wp at H
  split at H
  · rename_i pc' ins len op a b c w v he
    have : pc = pc' := by rw [← hp, pcAt, he]
    subst this
    have hok : eok r.1.cls r.1.name r.2.1 r.ml r.rt (cl.map fun q => (q.1.1, q.2.1, q.2.2)) sw tb i pc ins len op a b c w v = true := hT.1 i (pc, ins, len, op, a, b, c, w, v) he
    exact stepw_sound hT.2 hl0 (wpK_ok hl0 hT n) hok H
  · exact H.elim
end WPS
