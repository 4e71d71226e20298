/-! ===== the class: what it changes in a valley ===== -/
theorem ite0 {c : Prop} [Decidable c] (h : (if c then (1 : Int32) else 0) = 0) : ¬ c := fun z => by rw [if_pos z] at h; exact absurd h (by decide)
theorem ite1 {c : Prop} [Decidable c] (h : ¬ (if c then (1 : Int32) else 0) = 0) : c := by
  by_cases z : c
  · exact z
  · rw [if_neg z] at h; exact absurd rfl h
abbrev Tt : Type := Vs → Nat → Int32 → Int32
def Sm (lo hi : Nat) (h h' : Hp) : Prop := ∀ a, lo ≤ a → a < hi → h'.1 a = h.1 a ∧ h'.2.1 a = h.2.1 a
theorem Sm.of {lo hi : Nat} {h h' : Hp} {P : Nat → Nat → Prop} (x : Fs P h h') (n : ∀ a j, lo ≤ a → a < hi → ¬ P a j) : Sm lo hi h h' := fun a h1 h2 => ⟨by rw [x.1], funext fun j => x.2.2 a j (n a j h1 h2)⟩
def LawOk (G : Gx) (h : Hp) (la : Nat) (T : Tt) : Prop := ∀ h', Sm la (la + 5) h h' → (h'.1 la).1 = 1 ∧ ∀ v A lb, VlyAt h' v A lb → Wf A → ∀ p k, p < nP A → k < 3 → EvI G m_La_total [.ref la, .ref v, .int (nI p), .int (nI k)] h' (T A p (nI k))
theorem LawOk.keep {G : Gx} {h h' : Hp} {la : Nat} {T : Tt} (L : LawOk G h la T) (s : Sm la (la + 5) h h') : LawOk G h' la T := fun h2 s2 => L h2 (fun a x y => ⟨(s2 a x y).1.trans (s a x y).1, (s2 a x y).2.trans (s a x y).2⟩)
def gripF (T : Tt) (A : Vs) (p : Nat) : Int32 := imax 0 (((A 2 p + (if A 4 p = 1 then 1 else 0) * 2) + T A p (nI 0)) - T A p (nI 1))
def failF (T : Tt) (A : Vs) (p : Nat) : Int32 := imin 100 ((A 0 3 + A 1 p / 5) + T A p (nI 2))
theorem lp_inv {α : Type} {f : Nat → α → α} {I : α → Prop} {n : Nat} {a : α} (h0 : I a) (hs : ∀ t a', t < n → I a' → I (f t a')) : ∀ t, t ≤ n → I (lp f t a)
  | 0, _ => h0
  | t + 1, h => hs t _ (by omega) (lp_inv h0 hs t (by omega))
/-- where a valley and its law are -/
def Dj (v la : Nat) : Prop := la + 5 ≤ v ∨ v + 11 ≤ la
theorem Dj.keep {G : Gx} {h h' : Hp} {v la : Nat} {T : Tt} (d : Dj v la) (L : LawOk G h la T) (x : Fs (inV v) h h') : LawOk G h' la T :=
  L.keep (Sm.of x (fun a j h1 h2 z => by unfold inV at z; unfold Dj at d; omega))
/-! the steps of a night -/
def letS (T : Tt) (p : Nat) (A : Vs) : Vs := if A 5 p = 1 then (if holdF A (nI p) = -1 then A else if A 7 (holdF A (nI p)).toNatClampNeg ≤ gripF T A p then A else logA (mvA A (holdF A (nI p)).toNatClampNeg 2 (nI p)) (A 0 2) (nI p) 0 (holdF A (nI p)) (A 1 p)) else A
def letF (T : Tt) (A : Vs) : Vs := lp (letS T) (nP A) A
def sdF (x : Int32) : Int32 := x * 1103515245 + 12345
def us (x y : Int32) : Int32 := (x.toUInt32 >>> (y.toUInt32 &&& Int32.toUInt32 31)).toInt32
def drF (x : Int32) : Int32 := us (sdF x) 16 &&& 32767
def rm (x y : Int32) : Int32 := x - x / y * y
def bcA (x : Int32) : Int32 := x - (us x 1 &&& 1431655765)
def bcB (x : Int32) : Int32 := (x &&& 858993459) + (us x 2 &&& 858993459)
def bcC (x : Int32) : Int32 := (x + us x 4) &&& 252645135
def bcD (x : Int32) : Int32 := x + us x 8
def bcE (x : Int32) : Int32 := x + us x 16
def bcF (x : Int32) : Int32 := bcE (bcD (bcC (bcB (bcA x)))) &&& 63
def nthG (s : Int32) : Nat → Nat → Int32 → Int32
  | 0, _, _ => -1
  | d + 1, t, k => if bit1 s t = 1 then (if k = 0 then nI t else nthG s d (t + 1) (k + -1)) else nthG s d (t + 1) k
def feltF (A : Vs) (p : Nat) : Int32 := nthG (clothF A (nI p)) (nT A) 0 (rm (drF (A 0 5)) (bcF (clothF A (nI p))))
def feelS (T : Tt) (p : Nat) (A : Vs) : Vs := if A 5 p = 1 then (if clothF A (nI p) = 0 then A else if holdF A (nI p) = -1 then
    (if gripF T (up A 0 5 (sdF (A 0 5))) p < A 7 (feltF A p).toNatClampNeg then logA (up A 0 5 (sdF (A 0 5))) (A 0 2) (nI p) 2 (feltF A p) (A 1 p)
     else logA (mvA (up A 0 5 (sdF (A 0 5))) (feltF A p).toNatClampNeg 1 (nI p)) (A 0 2) (nI p) 1 (feltF A p) (A 1 p)) else A) else A
def feelF (T : Tt) (A : Vs) : Vs := lp (feelS T) (nP A) A
/-- what becomes of a thing when p dies, who held 'held', the next being nx -/
def dS (p held nx : Int32) (t : Nat) (A : Vs) : Vs := if A 8 t = p then mvA (up A 8 t (if nI t = held then nx else -1)) t 0 (-1) else if A 10 t = p then mvA A t 0 (-1) else A
def dieF (A : Vs) (p : Nat) : Vs := logA (up (lp (dS (nI p) (holdF A (nI p)) (succF A p)) (nT A) A) 5 p 0) (A 0 2) (nI p) 3 (holdF A (nI p)) (A 1 p)
def ageF (A : Vs) (p : Nat) : Vs := if rm (A 0 2) 10 = 9 then up A 1 p (imin (A 1 p + 1) 99) else A
def wakeS (T : Tt) (p : Nat) (A : Vs) : Vs := if A 5 p = 1 then
    (if failF T (up (ageF A p) 0 5 (sdF (A 0 5))) p ≤ rm (drF (A 0 5)) 100 then up (ageF A p) 0 5 (sdF (A 0 5)) else dieF (up (ageF A p) 0 5 (sdF (A 0 5))) p) else A
def wakeF (T : Tt) (A : Vs) : Vs := lp (wakeS T) (nP A) A
def nightF (A : Vs) : Vs := up A 0 2 (imin (A 0 2 + 1) 9999)
def passF (T : Tt) : Nat → Vs → Vs
  | 0, A => A
  | n + 1, A => nightF (wakeF T (feelF T (letF T (passF T n A))))
def calmF (T : Tt) : Nat → Vs → Vs
  | 0, A => A
  | n + 1, A => nightF (letF T (calmF T n A))
section VA2
variable {G : Gx} {h : Hp} {v : Nat} {A : Vs} {la : Nat} {T : Tt}
theorem hbit (B : Bd A) {f p : Nat} (hp : p < nP A) : (flagF A f >>> (nI p &&& 31)) &&& 1 = (if A f p = 1 then 1 else 0) := by
  have := flag_bit (A := A) (f := f) B (by have := B.P7 hp; omega : p < 32); rw [if_pos hp] at this; exact this
theorem j_bitCount (hl : G.1.stackTraces = false) (x : Int32) : EvI G m_JI_bitCount [.int x] h (bcF x) := en_JI_bitCount h _ x (e_JI_bitCount_0 hl h _ x ⟨rfl, rfl⟩)
theorem v_grips (hl : G.1.stackTraces = false) (V : VlyAt h v A la) (W : Wf A) (L : LawOk G h la T) {p : Nat} (hp : p < nP A) : EvI G m_Va_grips [.ref v, .int (nI p)] h (gripF T A p) := by
  obtain ⟨k1, k2⟩ := L h (fun _ _ _ => ⟨rfl, rfl⟩)
  refine en_Va_grips h _ v _ (e_Va_grips_0 hl h _ v _ ⟨_, V.f4, _, V.r17, k1, _, k2 v A la V W p 0 hp (by decide), _, V.r17, k1, _, k2 v A la V W p 1 hp (by decide), _, V.r2, _, V.a2 (W.1.P7 hp), ?_, rfl⟩)
  rw [hbit W.1 hp]
  rfl
theorem v_fails (hl : G.1.stackTraces = false) (V : VlyAt h v A la) (W : Wf A) (L : LawOk G h la T) {p : Nat} (hp : p < nP A) : EvI G m_Va_fails [.ref v, .int (nI p)] h (failF T A p) := by
  obtain ⟨k1, k2⟩ := L h (fun _ _ _ => ⟨rfl, rfl⟩)
  exact en_Va_fails h _ v _ (e_Va_fails_0 hl h _ v _ ⟨_, V.f13, _, V.r1, _, V.a1 (W.1.P7 hp), by decide, _, V.r17, k1, _, k2 v A la V W p 2 hp (by decide), rfl, rfl⟩)
theorem v_fits (hl : G.1.stackTraces = false) (V : VlyAt h v A la) (W : Wf A) (L : LawOk G h la T) {p t : Nat} (hp : p < nP A) (ht : t < nT A) : EvI G m_Va_fits [.ref v, .int (nI p), .int (nI t)] h (if gripF T A p < A 7 t then 0 else 1) :=
  en_Va_fits h _ v _ _ (e_Va_fits_0 hl h _ v _ _ ⟨_, V.r8, _, V.a7 (W.1.T10 ht), V.kd, _, v_grips hl V W L hp, fun c => ⟨by rw [if_pos c], rfl⟩, fun c => ⟨by rw [if_neg c], rfl⟩⟩)
theorem v_move (hl : G.1.stackTraces = false) (hv : G.n0 ≤ v) (V : VlyAt h v A la) {t : Nat} (ht : t < 10) (w x : Int32) : EvM G m_Va_move [.ref v, .int (nI t), .int w, .int x] h (vpost v la h (mvA A t w x)) := by
  refine en_Va_move h _ v _ _ _ (e_Va_move_0 hl h _ v _ _ _ ⟨_, V.r10, V.w9 hv ht, ?_⟩)
  rw [nI_clamp (by omega)]
  have V1 := V.set (k := 9) (j := t) (Or.inr (Or.inr ⟨by decide, by decide, ht⟩)) (by omega) w
  refine e_Va_move_7 hl _ _ v _ _ ⟨_, V1.r11, V1.w10 hv ht, ?_⟩
  rw [nI_clamp (by omega)]
  exact ⟨rfl, V1.set (k := 10) (j := t) (Or.inr (Or.inr ⟨by decide, by decide, ht⟩)) (by omega) x, ((Fs.rf.set ⟨by omega, by omega⟩).set ⟨by omega, by omega⟩)⟩
theorem v_log (hl : G.1.stackTraces = false) (hv : G.n0 ≤ v) (V : VlyAt h v A la) (a0 a1 a2 a3 a4 : Int32) : EvM G m_Lo_add [.ref (v + 9), .int a0, .int a1, .int a2, .int a3, .int a4] h (vpost v la h (logA A a0 a1 a2 a3 a4)) := by
  refine EvM.post (l_add hl (by omega) V.2.2.2 a0 a1 a2 a3 a4) (fun o h' z => ?_)
  obtain ⟨z1, z2, z3⟩ := z
  exact ⟨z1, V.relog z3.1 (fun a ha => funext fun j => z3.2.2 a j (by omega)) z2 (fun k j hn => logA_lo hn), z3.mono (fun a j z => by unfold inV; omega)⟩
theorem v_draw (hl : G.1.stackTraces = false) (hv : G.n0 ≤ v) (V : VlyAt h v A la) : EvM G m_Va_draw [.ref v] h (vpostI v la h (up A 0 5 (sdF (A 0 5))) (drF (A 0 5))) := by
  refine en_Va_draw h _ v (e_Va_draw_0 hl h _ v ⟨_, V.f15, ⟨hv, V.kd⟩, ?_⟩)
  have V1 := V.set (k := 0) (j := 5) (Or.inl ⟨rfl, by decide⟩) (by omega) (sdF (A 0 5))
  exact e_Va_draw_15 hl _ _ v ⟨_, ⟨V.kd, hs_eq⟩, rfl, V1, Fs.rf.set ⟨Nat.le_refl _, by omega⟩⟩
theorem v_numbered (hl : G.1.stackTraces = false) (V : VlyAt h v A la) (B : Bd A) (s k : Int32) : EvI G m_Va_numbered [.ref v, .int s, .int k] h (nthG s (nT A) 0 k) := by
  refine en_Va_numbered h _ v s k (e_Va_numbered_0 hl h _ v s k ?_)
  suffices hh : ∀ d t k, t + d = nT A → Ev G m_Va_numbered 5 [.ref v, .int s, un, .int k, .int (nI t)] [] h 0 0 (fun o h' => o = .inl (some (.int (nthG s d t k))) ∧ h' = h) from hh (nT A) 0 k (Nat.zero_add _)
  intro d
  induction d with
  | zero =>
    intro t k ht
    exact e_Va_numbered_5 hl h _ v s _ _ ⟨_, V.f6, fun _ => ⟨rfl, rfl⟩, fun c => absurd (by rw [B.2.2.1, ← ht]; exact Int32.le_refl _) c⟩
  | succ d ih =>
    intro t k ht
    refine e_Va_numbered_5 hl h _ v s _ _ ⟨_, V.f6, fun c => absurd c (B.in_T (by omega)), fun _ => ⟨fun c => ?_, fun c => ⟨fun e => ?_, fun e => ?_⟩⟩⟩
    · rw [nI_1]; have := ih (t + 1) k (by omega); rw [nthG, if_neg (show ¬ bit1 s t = 1 from c)]; exact this
    · rw [nI_1]; have := ih (t + 1) (k + -1) (by omega); rw [nthG, if_pos (show bit1 s t = 1 from c), if_neg e]; exact this
    · rw [nthG, if_pos (show bit1 s t = 1 from c), if_pos e]; exact ⟨rfl, rfl⟩
end VA2
