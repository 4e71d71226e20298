/-! ===== the table's pieces are right ===== -/
section SND
variable {G : Gx} {r : Mr} {pc : Nat} {cl : List (Mr × Nat × Nat)} {sw : List (List Nat)} {tb : List Ent} {L st : List Value} {h : Hp} {cs ss : Nat} {Post : Res → Hp → Prop} {K : Kt}
def KOK (G : Gx) (r : Mr) (tb : List Ent) (Post : Res → Hp → Prop) (K : Kt) : Prop := ∀ (j : Nat) (L st : List Value) (h : Hp) (cs ss : Nat), K j L st h cs ss → ∃ e, tb[j]? = some e ∧ Ev G r e.1 L st h cs ss Post
theorem KOK.nx (hK : KOK G r tb Post K) {j n : Nat} (hp : pcAt tb j = n) (H : K j L st h cs ss) : Ev G r n L st h cs ss Post := by
  obtain ⟨e, h1, h2⟩ := hK j L st h cs ss H
  rw [← hp, pcAt, h1]
  exact h2
theorem off_ok (pc t : Nat) : (pc : Int) + ((t : Int) - pc) = (t : Int) := by omega
theorem clamp_le {n : Int32} {m : Nat} (hm : m < 2 ^ 31) (h : n ≤ Int32.ofNat m) : n.toNatClampNeg ≤ m := by
  have h1 := Int32.le_iff_toInt_le.mp h
  have h2 : (Int32.ofNat m).toInt = (m : Int) := nI_toInt hm
  rw [h2] at h1
  show n.toInt.toNat ≤ m
  omega
theorem aty_bytes {a : Nat} (ha : a < 4) : componentBytes (aty a) ≤ 8 := by
  have : a = 0 ∨ a = 1 ∨ a = 2 ∨ a = 3 := by omega
  rcases this with rfl | rfl | rfl | rfl <;> decide
theorem arrT_ok {a : Nat} (ha : a < 4) : newarray.typeOf (arrT a) = aty a := by
  have : a = 0 ∨ a = 1 ∨ a = 2 ∨ a = 3 := by omega
  rcases this with rfl | rfl | rfl | rfl <;> rfl
theorem rK_rcv {kd b : Nat} {C : String} (hC : kdC kd C = true) (hk : rK G h kd b) : rcv G h C b := by
  unfold kdC at hC
  unfold rK at hk
  split at hC
  · rw [if_pos ‹_›] at hk
    split at hC
    · rename_i q hq
      simp only [Bool.and_eq_true, decide_eq_true_eq] at hC
      exact Or.inl ⟨kd - 1, q.2.2, q.2.1, by rw [hq, ← hC.2], by omega⟩
    · cases hC
  · rw [if_neg ‹_›] at hk
    simp only [Bool.and_eq_true, decide_eq_true_eq] at hC
    exact Or.inr ⟨kd - 201, hC.2, by omega⟩
theorem dflt_ok {ci N : Nat} {C : String} {T : u_T} (hc : cls[ci]? = some (C, T, N)) : ∀ k, k < N → ∃ ty, parseFieldDescriptor (T k).2.2.1 = some ty ∧ dflt ci k = defaultValue ty := by
  intro k hk
  obtain ⟨ty, hty⟩ := (cls_ok hc).2.1 k hk
  have hty' : parseFieldDescriptor (T k).2.2.1 = some ty := hty
  exact ⟨ty, hty, by simp only [dflt, hc, hty']⟩
theorem narrow_b {x : Int32} (h : x = 0 ∨ x = 1) : narrow .boolean (.int x) = .int x ∧ fits .boolean (.int x) = true := by
  rcases h with rfl | rfl <;> decide
theorem swP_get {K : Nat → Prop} : ∀ (ts : List Nat) (v x : Int32) (k t : Nat), swP K ts v x → ts[k]? = some t → x = v + Int32.ofNat k → K t
  | [], _, _, _, _, _, h, _ => by simp at h
  | t :: ts, v, x, 0, t', hs, h, hx => by
    cases h
    exact hs.1 (by rw [hx]; show v + 0 = v; simp)
  | t :: ts, v, x, k + 1, t', hs, h, hx => by
    refine swP_get ts (v + 1) x k t' hs.2 h ?_
    rw [hx, show Int32.ofNat (k + 1) = Int32.ofNat k + 1 from nI_succ k, Int32.add_assoc, Int32.add_comm 1]
theorem bud_split {q : Mr} {P : Nat → Nat → Prop} (h1 : cs ≤ r.mc) (h2 : ss ≤ r.ms) (hb : bud r q cs ss P) : (cs + q.mc ≤ r.mc ∧ ss + q.ms ≤ r.ms) ∧ P (cs + q.mc) (ss + q.ms) := by
  unfold bud at hb
  split at hb
  · rename_i hz
    rw [hz.1, hz.2]
    exact ⟨⟨h1, h2⟩, hb⟩
  · exact hb
/-- the counts are within -/
theorem Ev.within (k : cs ≤ r.mc → ss ≤ r.ms → Ev G r pc L st h cs ss Post) : Ev G r pc L st h cs ss Post :=
  fun p e s m args below meth c ls H locs F hl hR hS h1 h2 => k h1 h2 p e s m args below meth c ls H locs F hl hR hS h1 h2
end SND
