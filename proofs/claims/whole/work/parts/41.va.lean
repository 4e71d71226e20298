/-! ===== the valley: what its methods read ===== -/
def ownF (A : Vs) (p : Int32) : Int32 := lp (fun t b => if A 8 t = p then b ||| sh1 t else b) (nT A) 0
def clothF (A : Vs) (p : Int32) : Int32 := lp (fun t b => if A 9 t = 2 ∧ A 10 t = p then b ||| sh1 t else b) (nT A) 0
def inF (A : Vs) (w : Int32) : Int32 := lp (fun t n => if A 9 t = w then n + 1 else n) (nT A) 0
def worthF (A : Vs) (s : Int32) : Int32 := lp (fun t n => n + bit1 s t * A 6 t) (nT A) 0
/-- the first thing from place t on, d places more, that p holds; -1 -/
def holdG (A : Vs) (p : Int32) : Nat → Nat → Int32
  | 0, _ => -1
  | d + 1, t => if A 9 t = 1 ∧ A 10 t = p then nI t else holdG A p d (t + 1)
def holdF (A : Vs) (p : Int32) : Int32 := holdG A p (nT A) 0
def allF (A : Vs) : Int32 := (1 : Int32) <<< (A 0 1 &&& 31) - 1
/-- how many others live -/
def othF (A : Vs) (p : Int32) : Int32 := lp (fun t n => if nI t = p then n else n + (if A 5 t = 1 then 1 else 0)) (nP A) 0
/-- down the line from o on, d steps more -/
def succG (A : Vs) (p : Int32) : Nat → Int32 → Int32
  | 0, _ => -1
  | d + 1, o => if o = -1 then -1 else if o ≠ p ∧ A 5 o.toNatClampNeg = 1 then o else succG A p d (A 3 o.toNatClampNeg)
def succF (A : Vs) (p : Nat) : Int32 := if othF A (nI p) < A 0 4 then -1 else succG A (nI p) (nP A) (A 3 p)
/-- heirs are people, or none -/
def Hr (A : Vs) : Prop := ∀ p, p < nP A → A 3 p = -1 ∨ ∃ q, q < nP A ∧ A 3 p = nI q
section VA1
variable {G : Gx} {h : Hp} {v : Nat} {A : Vs} {la : Nat}
theorem v_isPerson (hl : G.1.stackTraces = false) (V : VlyAt h v A la) (p : Int32) : EvI G m_Va_isPerson [.ref v, .int p] h (if p < 0 then 0 else if A 0 0 ≤ p then 0 else 1) := by
  refine en_Va_isPerson h _ v p (e_Va_isPerson_0 hl h _ v p ⟨fun c => ⟨by rw [if_pos c], rfl⟩, fun c => ⟨_, V.f0, fun d => ⟨by rw [if_neg c, if_pos d], rfl⟩, fun d => ⟨by rw [if_neg c, if_neg d], rfl⟩⟩⟩)
theorem v_isThing (hl : G.1.stackTraces = false) (V : VlyAt h v A la) (p : Int32) : EvI G m_Va_isThing [.ref v, .int p] h (if p < 0 then 0 else if A 0 1 ≤ p then 0 else 1) := by
  refine en_Va_isThing h _ v p (e_Va_isThing_0 hl h _ v p ⟨fun c => ⟨by rw [if_pos c], rfl⟩, fun c => ⟨_, V.f6, fun d => ⟨by rw [if_neg c, if_pos d], rfl⟩, fun d => ⟨by rw [if_neg c, if_neg d], rfl⟩⟩⟩)
theorem v_isLiving (hl : G.1.stackTraces = false) (V : VlyAt h v A la) (B : Bd A) (p : Int32) : EvI G m_Va_isLiving [.ref v, .int p] h (if p < 0 then 0 else if A 0 0 ≤ p then 0 else if A 5 p.toNatClampNeg = 1 then 1 else 0) := by
  refine en_Va_isLiving h _ v p (e_Va_isLiving_0 hl h _ v p ⟨fun c => ⟨by rw [if_pos c], rfl⟩, fun c => ⟨_, V.f0, fun d => ⟨by rw [if_neg c, if_pos d], rfl⟩, fun d => ?_⟩⟩)
  obtain ⟨k, hk, rfl⟩ := B.person c d
  have e := flag_bit (A := A) (f := 5) B (by have := B.P7 hk; omega : k < 32)
  rw [if_pos hk] at e
  rw [nI_clamp (by have := B.P7 hk; omega)]
  refine ⟨_, V.f5, fun z => ⟨?_, rfl⟩, fun z => ⟨?_, rfl⟩⟩
  · rw [if_neg c, if_neg d, if_neg (fun q => z (by rw [if_pos q] at e; exact e))]
  · rw [if_neg c, if_neg d, if_pos (by
      by_cases q : A 5 k = 1
      · exact q
      · rw [if_neg q] at e; unfold bit1 at e; rw [e] at z; exact absurd z (by decide))]
/-- of somebody who is -/
theorem v_living (hl : G.1.stackTraces = false) (V : VlyAt h v A la) (B : Bd A) {p : Nat} (hp : p < nP A) : EvI G m_Va_isLiving [.ref v, .int (nI p)] h (if A 5 p = 1 then 1 else 0) := by
  have := v_isLiving hl V B (nI p)
  have h7 := B.P7 hp
  rw [if_neg (nI_pos (by omega)), if_neg (B.in_P hp), nI_clamp (by omega)] at this
  exact this
theorem v_isFree (hl : G.1.stackTraces = false) (V : VlyAt h v A la) {t : Nat} (ht : t < 10) : EvI G m_Va_isFree [.ref v, .int (nI t)] h (if A 9 t = 0 then (if A 8 t = -1 then 0 else 1) else 0) := by
  refine en_Va_isFree h _ v _ (e_Va_isFree_0 hl h _ v _ ⟨_, V.r10, _, V.a9 ht, fun c => ⟨by rw [if_neg c], rfl⟩, fun c => ⟨_, V.r9, _, V.a8 ht, fun d => ⟨by rw [if_pos c, if_pos d], rfl⟩, fun d => ⟨by rw [if_pos c, if_neg d], rfl⟩⟩⟩)
theorem v_allThings (hl : G.1.stackTraces = false) (V : VlyAt h v A la) : EvI G m_Va_allThings [.ref v] h (allF A) :=
  en_Va_allThings h _ v (e_Va_allThings_0 hl h _ v ⟨_, V.f6, rfl, rfl⟩)
theorem v_ownedBy (hl : G.1.stackTraces = false) (V : VlyAt h v A la) (B : Bd A) (p : Int32) : EvI G m_Va_ownedBy [.ref v, .int p] h (ownF A p) := by
  refine en_Va_ownedBy h _ v p (e_Va_ownedBy_0 hl h _ v p ?_)
  refine for_up (Q := fun t => Ev G m_Va_ownedBy 4 [.ref v, .int p, .int (lp (fun t b => if A 8 t = p then b ||| sh1 t else b) t 0), .int (nI t)] [] h 0 0 _) (n := nT A) ?_ (fun t ht ih => ?_) 0 (Nat.zero_le _)
  · exact e_Va_ownedBy_4 hl h _ v p _ _ ⟨_, V.f6, fun _ => ⟨rfl, rfl⟩, fun c => absurd B.end_T c⟩
  · refine e_Va_ownedBy_4 hl h _ v p _ _ ⟨_, V.f6, fun c => absurd c (B.in_T ht), fun _ => ⟨_, V.r9, _, V.a8 (B.T10 ht), fun c => ?_, fun c => ?_⟩⟩
    · rw [nI_1]; simp only [lp, if_neg c] at ih; exact ih
    · rw [nI_1]; simp only [lp, if_pos c] at ih; exact ih
theorem v_clothOf (hl : G.1.stackTraces = false) (V : VlyAt h v A la) (B : Bd A) (p : Int32) : EvI G m_Va_clothOf [.ref v, .int p] h (clothF A p) := by
  refine en_Va_clothOf h _ v p (e_Va_clothOf_0 hl h _ v p ?_)
  refine for_up (Q := fun t => Ev G m_Va_clothOf 4 [.ref v, .int p, .int (lp (fun t b => if A 9 t = 2 ∧ A 10 t = p then b ||| sh1 t else b) t 0), .int (nI t)] [] h 0 0 _) (n := nT A) ?_ (fun t ht ih => ?_) 0 (Nat.zero_le _)
  · exact e_Va_clothOf_4 hl h _ v p _ _ ⟨_, V.f6, fun _ => ⟨rfl, rfl⟩, fun c => absurd B.end_T c⟩
  · refine e_Va_clothOf_4 hl h _ v p _ _ ⟨_, V.f6, fun c => absurd c (B.in_T ht), fun _ => ⟨_, V.r10, _, V.a9 (B.T10 ht), fun c => ?_, fun c => ⟨_, V.r11, _, V.a10 (B.T10 ht), fun d => ?_, fun d => ?_⟩⟩⟩
    · rw [nI_1]; simp only [lp, c, false_and, if_false] at ih; exact ih
    · rw [nI_1]; simp only [lp, c, d, and_false, if_false] at ih; exact ih
    · rw [nI_1]; simp only [lp, c, d, and_self, if_true] at ih; exact ih
theorem v_howManyIn (hl : G.1.stackTraces = false) (V : VlyAt h v A la) (B : Bd A) (p : Int32) : EvI G m_Va_howManyIn [.ref v, .int p] h (inF A p) := by
  refine en_Va_howManyIn h _ v p (e_Va_howManyIn_0 hl h _ v p ?_)
  refine for_up (Q := fun t => Ev G m_Va_howManyIn 4 [.ref v, .int p, .int (lp (fun t n => if A 9 t = p then n + 1 else n) t 0), .int (nI t)] [] h 0 0 _) (n := nT A) ?_ (fun t ht ih => ?_) 0 (Nat.zero_le _)
  · exact e_Va_howManyIn_4 hl h _ v p _ _ ⟨_, V.f6, fun _ => ⟨rfl, rfl⟩, fun c => absurd B.end_T c⟩
  · refine e_Va_howManyIn_4 hl h _ v p _ _ ⟨_, V.f6, fun c => absurd c (B.in_T ht), fun _ => ⟨_, V.r10, _, V.a9 (B.T10 ht), fun c => ?_, fun c => ?_⟩⟩
    · rw [nI_1]; simp only [lp, if_neg c] at ih; exact ih
    · rw [nI_1]; simp only [lp, if_pos c] at ih; exact ih
theorem v_worthOf (hl : G.1.stackTraces = false) (V : VlyAt h v A la) (B : Bd A) (s : Int32) : EvI G m_Va_worthOf [.ref v, .int s] h (worthF A s) := by
  refine en_Va_worthOf h _ v s (e_Va_worthOf_0 hl h _ v s ?_)
  refine for_up (Q := fun t => Ev G m_Va_worthOf 4 [.ref v, .int s, .int (lp (fun t n => n + bit1 s t * A 6 t) t 0), .int (nI t)] [] h 0 0 _) (n := nT A) ?_ (fun t ht ih => ?_) 0 (Nat.zero_le _)
  · exact e_Va_worthOf_4 hl h _ v s _ _ ⟨_, V.f6, fun _ => ⟨rfl, rfl⟩, fun c => absurd B.end_T c⟩
  · refine e_Va_worthOf_4 hl h _ v s _ _ ⟨_, V.f6, fun c => absurd c (B.in_T ht), fun _ => ⟨_, V.r7, _, V.a6 (B.T10 ht), ?_⟩⟩
    rw [nI_1]; exact ih
theorem v_holding (hl : G.1.stackTraces = false) (V : VlyAt h v A la) (B : Bd A) (p : Int32) : EvI G m_Va_holding [.ref v, .int p] h (holdF A p) := by
  refine en_Va_holding h _ v p (e_Va_holding_0 hl h _ v p ?_)
  suffices hh : ∀ d t, t + d = nT A → Ev G m_Va_holding 2 [.ref v, .int p, .int (nI t)] [] h 0 0 (fun o h' => o = .inl (some (.int (holdG A p d t))) ∧ h' = h) from hh (nT A) 0 (Nat.zero_add _)
  intro d
  induction d with
  | zero =>
    intro t ht
    rw [Nat.add_zero] at ht
    exact e_Va_holding_2 hl h _ v p _ ⟨_, V.f6, fun _ => ⟨rfl, rfl⟩, fun c => absurd (ht ▸ B.end_T) c⟩
  | succ d ih =>
    intro t ht
    have htn : t < nT A := by omega
    refine e_Va_holding_2 hl h _ v p _ ⟨_, V.f6, fun c => absurd c (B.in_T htn), fun _ => ⟨_, V.r10, _, V.a9 (B.T10 htn), fun c => ?_, fun c => ⟨_, V.r11, _, V.a10 (B.T10 htn), fun e => ?_, fun e => ?_⟩⟩⟩
    · rw [nI_1]; have := ih (t + 1) (by omega); simp only [holdG, c, false_and, if_false]; exact this
    · rw [nI_1]; have := ih (t + 1) (by omega); simp only [holdG, c, e, and_false, if_false]; exact this
    · simp only [holdG, c, e, and_self, if_true]
theorem v_crownWealth (hl : G.1.stackTraces = false) (V : VlyAt h v A la) (B : Bd A) : EvI G m_Va_crownWealth [.ref v] h (worthF A (ownF A (-1))) :=
  en_Va_crownWealth h _ v (e_Va_crownWealth_0 hl h _ v ⟨V.kd, _, v_ownedBy hl V B _, V.kd, _, v_worthOf hl V B _, rfl, rfl⟩)
theorem v_successor (hl : G.1.stackTraces = false) (V : VlyAt h v A la) (B : Bd A) (R : Hr A) {p : Nat} (hp : p < nP A) : EvI G m_Va_successor [.ref v, .int (nI p)] h (succF A p) := by
  have hbit : ∀ t, t < nP A → (flagF A 5 >>> (nI t &&& 31)) &&& 1 = (if A 5 t = 1 then 1 else 0) := fun t ht => by
    have := flag_bit (A := A) (f := 5) B (by have := B.P7 ht; omega : t < 32); rw [if_pos ht] at this; exact this
  have hp7 := B.P7 hp
  refine en_Va_successor h _ v _ (e_Va_successor_0 hl h _ v _ ?_)
  refine for_up (Q := fun t => Ev G m_Va_successor 4 [.ref v, .int (nI p), .int (lp (fun t n => if nI t = nI p then n else n + (if A 5 t = 1 then 1 else 0)) t 0), .int (nI t), un] [] h 0 0 _) (n := nP A) ?_ (fun t ht ih => ?_) 0 (Nat.zero_le _)
  · refine e_Va_successor_4 hl h _ v _ _ _ ⟨_, V.f0, fun _ => ⟨_, V.f14, fun c => ⟨_, V.r3, _, V.a3 hp7, ?_⟩, fun c => ⟨?_, rfl⟩⟩, fun c => absurd B.end_P c⟩
    · have hnot : ¬ othF A (nI p) < A 0 4 := Int32.not_lt.mpr c
      suffices hh : ∀ d k o, k + d = nP A → (o = -1 ∨ ∃ q, q < nP A ∧ o = nI q) → Ev G m_Va_successor 58 [.ref v, .int (nI p), un, .int o, .int (nI k)] [] h 0 0 (fun o' h' => o' = .inl (some (.int (succG A (nI p) d o))) ∧ h' = h) by
        have := hh (nP A) 0 (A 3 p) (Nat.zero_add _) (R p hp)
        simp only [succF, if_neg hnot]
        exact this
      intro d
      induction d with
      | zero =>
        intro k o hk ho
        rw [Nat.add_zero] at hk
        exact e_Va_successor_58 hl h _ v _ _ _ ⟨_, V.f0, fun _ => ⟨rfl, rfl⟩, fun c => absurd (hk ▸ B.end_P) c⟩
      | succ d ih =>
        intro k o hk ho
        refine e_Va_successor_58 hl h _ v _ _ _ ⟨_, V.f0, fun c => absurd c (B.in_P (by omega)), fun _ => ⟨fun c => ⟨by simp only [succG, c, if_true], rfl⟩, fun c => ?_⟩⟩
        rcases ho with ho | ⟨q, hq, ho⟩
        · exact absurd ho c
        · have hc : (nI q).toNatClampNeg = q := nI_clamp (by have := B.P7 hq; omega)
          refine ⟨fun e => ⟨_, V.r3, A 3 q, by rw [ho]; exact V.a3 (B.P7 hq), ?_⟩, fun e => ⟨_, V.f5, fun f => ⟨_, V.r3, A 3 q, by rw [ho]; exact V.a3 (B.P7 hq), ?_⟩, fun f => ⟨?_, rfl⟩⟩⟩
          · rw [nI_1]
            have := ih (k + 1) (A 3 q) (by omega) (R q hq)
            simp only [succG, if_neg c]
            rw [if_neg (fun z => z.1 e), ho, hc]
            exact this
          · rw [nI_1]
            have := ih (k + 1) (A 3 q) (by omega) (R q hq)
            simp only [succG, if_neg c]
            rw [ho, hbit q hq] at f
            rw [ho, hc, if_neg (fun z => f (by rw [if_pos z.2]))]
            exact this
          · rw [ho, hbit q hq] at f
            have f1 : A 5 q = 1 := by
              by_cases z : A 5 q = 1
              · exact z
              · rw [if_neg z] at f; exact absurd f (by decide)
            simp only [succG, if_neg c]
            rw [ho, hc, if_pos ⟨by rw [← ho]; exact e, f1⟩]
    · rw [succF, if_pos (show othF A (nI p) < A 0 4 from Int32.not_le.mp c)]
  · refine e_Va_successor_4 hl h _ v _ _ _ ⟨_, V.f0, fun c => absurd c (B.in_P ht), fun _ => ⟨fun c => ⟨_, V.f5, ?_⟩, fun c => ?_⟩⟩
    · rw [nI_1, hbit t ht]; simp only [lp, if_neg c] at ih; exact ih
    · rw [nI_1]; simp only [lp, if_pos c] at ih; rw [Int32.add_zero]; exact ih
end VA1
