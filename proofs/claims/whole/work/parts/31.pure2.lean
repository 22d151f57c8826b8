-- 31.pure2: a land as a flat row of numbers: the pure functions of a night; small rows for walks
abbrev FA : Type := Nat → Int32
noncomputable def bI (p : Prop) : Int32 := @ite _ p (Classical.propDecidable p) 1 0
theorem bI_p {p : Prop} (h : p) : bI p = 1 := by unfold bI; rw [if_pos h]
theorem bI_n {p : Prop} (h : ¬ p) : bI p = 0 := by unfold bI; rw [if_neg h]
theorem bI_t {p : Prop} (h : ¬ bI p = 0) : p := Classical.byContradiction fun q => h (bI_n q)
theorem bI_f {p : Prop} (h : bI p = 0) : ¬ p := fun q => by rw [bI_p q] at h; exact absurd h (by decide)
theorem bI_01 {p : Prop} : bI p = 0 ∨ bI p = 1 := by
  by_cases h : p
  · exact Or.inr (bI_p h)
  · exact Or.inl (bI_n h)
theorem bI_cg {p q : Prop} (h : p ↔ q) : bI p = bI q := by rw [propext h]
theorem narrow_bI (p : Prop) : narrow .boolean (.int (bI p)) = .int (bI p) := by
  by_cases h : p
  · rw [bI_p h]; rfl
  · rw [bI_n h]; rfl
theorem vp_l {x : Int32} {n : Nat} (h : decide (¬ (x < 0 ∨ n ≤ x.toNatClampNeg)) = true) : vp_in x n := of_decide_eq_true (p := ¬ (x < 0 ∨ n ≤ x.toNatClampNeg)) h
/-- a number below n -/
def isBd (n : Nat) (x : Int32) : Prop := ∃ j, j < n ∧ x = nI j
theorem isBd_nI {n j : Nat} (h : j < n) : isBd n (nI j) := ⟨j, h, rfl⟩
theorem isBd_lo {n : Nat} {x : Int32} (h : x < 0) (hn : n < 2 ^ 31) : ¬ isBd n x := fun ⟨j, hj, e⟩ => nI_pos (n := j) (by omega) (e ▸ h)
theorem isBd_hi {n : Nat} {x : Int32} (h : nI n ≤ x) (hn : n < 2 ^ 31) : ¬ isBd n x := fun ⟨j, hj, e⟩ => nI_ge hj hn (e ▸ h)
theorem isBd_in {n : Nat} {x : Int32} (h : ¬ x < 0) (h2 : ¬ nI n ≤ x) (hn : n < 2 ^ 31) : isBd n x := by
  obtain ⟨j, hj, rfl⟩ := nI_of h
  refine ⟨j, ?_, rfl⟩
  refine Nat.lt_of_not_le fun q => h2 (nI_le q hj)
theorem isBd_vp {n N : Nat} {x : Int32} (h : isBd n x) (h2 : n ≤ N) (hN : N < 2 ^ 31) : vp_in x N := by
  obtain ⟨j, hj, rfl⟩ := h
  exact vp_in_nI (by omega) hN
/-- loops upward -/
theorem lp_up {T : Nat → Prop} {N : Nat} (h0 : T N) (hs : ∀ i, i < N → T (i + 1) → T i) : ∀ j, j ≤ N → T j := by
  intro j hj
  obtain ⟨n, hn⟩ : ∃ n, n = N - j := ⟨_, rfl⟩
  induction n generalizing j with
  | zero => obtain rfl : j = N := by omega
            exact h0
  | succ n ih => exact hs j (by omega) (ih (j + 1) (by omega) (by omega))
theorem lp_x {x : Int32} {n : Nat} (e : x = nI n) (h : ¬ x ≤ nI n) : False := h (e ▸ Int32.le_refl _)
theorem lp_s {x : Int32} {n i : Nat} (e : x = nI n) (hi : i < n) (hn : n < 2 ^ 31) (h : x ≤ nI i) : False := nI_ge hi hn (e ▸ h)
def cB (f : FA) : Nat := (f 1).toNatClampNeg
def cP (f : FA) : Nat := (f 4).toNatClampNeg
def cT (f : FA) : Nat := (f 9).toNatClampNeg
/-- counts in range -/
def CN (f : FA) : Prop := f 1 = nI (cB f) ∧ cB f ≤ 10 ∧ f 4 = nI (cP f) ∧ cP f ≤ 9 ∧ f 9 = nI (cT f) ∧ cT f ≤ 14
theorem cB_lt {f : FA} {n : Nat} (h : f 1 = nI n) (hn : n < 2 ^ 31) : cB f = n := by unfold cB; rw [h]; exact nI_clamp hn
theorem cP_lt {f : FA} {n : Nat} (h : f 4 = nI n) (hn : n < 2 ^ 31) : cP f = n := by unfold cP; rw [h]; exact nI_clamp hn
theorem cT_lt {f : FA} {n : Nat} (h : f 9 = nI n) (hn : n < 2 ^ 31) : cT f = n := by unfold cT; rw [h]; exact nI_clamp hn
def ushr8 (x : Int32) : Int32 := (x.toUInt32 >>> ((8 : Int32).toUInt32 &&& Int32.toUInt32 31)).toInt32
def drawZ (f : FA) : Int32 := f 0 * 1103515245 + 12345
def drawF (f : FA) : FA := upd f 0 (drawZ f)
def drawV (f : FA) : Int32 := ushr8 (drawZ f)
def clamp (v lo hi : Int32) : Int32 := if v < lo then lo else if hi < v then hi else v
def absI (x : Int32) : Int32 := if x < 0 then -x else x
/-- a bed's ways, of its numbers -/
def wideI (k : Int32) : Int32 := if k = 2 then 1 else if k = 4 then 3 else if k = 5 then 4 else 2
def undP (k o : Int32) : Prop := o = 0 ∨ k = o ∨ (o = 1 ∧ k = 3) ∨ (o = 2 ∧ k = 4)
def takesI (k a t o m n : Int32) : Int32 := if k = 1 then (if m = 2 then t else a) else if k = 4 then (if irem n 2 = 0 then t else o) else t
def leadsI (k t o : Int32) : Int32 := if k = 4 then (1 : Int32) <<< (t &&& 31) ||| (1 : Int32) <<< (o &&& 31) else (1 : Int32) <<< (t &&& 31)
def worthI (k a t o : Int32) : Int32 := if k = 1 then absI (a - t) + 5 else if k = 2 then 9 - absI (a - t) else if k = 3 then 2 * (absI (a - t) + 5) else if k = 4 then 9 - absI (a - t) + o else if k = 5 then 1 else absI (a - t)
/-- those in a town who aren't gone, of the first n -/
def thereF (f : FA) (town : Int32) : Nat → Int32
  | 0 => 0
  | n + 1 => thereF f town n + (if f (50 + 4 * n) = town ∧ f (53 + 4 * n) = 0 then 1 else 0)
/-- the newest text of a key, of the first n: its number, or -1 -/
def countsF (f : FA) (key : Int32) : Nat → Int32
  | 0 => -1
  | n + 1 => if f (86 + 2 * n) / 1000 = key then nI n else countsF f key n
def twoF (g a b : Int32) : Int32 :=
  if g = -1 then (if ¬ a = 0 ∨ ¬ b = 0 then 1 else 0) else if g = -2 then (if ¬ a = 0 ∧ ¬ b = 0 then 1 else 0) else if g = -3 then (if a < b then 1 else 0) else if g = -4 then (if a = b then 1 else 0)
  else if g = -5 then (if b < a then 1 else 0) else if g = -6 then a + b else if g = -7 then a - b else if g = -8 then a * b else if b = 0 then 0 else a / b
/-- one sign of a text, over how many stand on the stack, and the stack -/
def sgS (x y z v : Int32) (q : Nat × FA) : Nat × FA :=
  if 0 ≤ v then (q.1 + 1, upd q.2 q.1 (if v < 10000 then v else if v = 10000 then x else if v = 10001 then y else z))
  else if v = -10 then (q.1, upd q.2 (q.1 - 1) (if q.2 (q.1 - 1) = 0 then 1 else 0))
  else (q.1 - 1, upd q.2 (q.1 - 2) (twoF v (q.2 (q.1 - 2)) (q.2 (q.1 - 1))))
def runS (x y z : Int32) (c : FA) : Nat → Nat × FA
  | 0 => (0, fun _ => 0)
  | n + 1 => sgS x y z (c n) (runS x y z c n)
/-- how many stand on the stack behind n signs -/
def depS (c : FA) : Nat → Nat
  | 0 => 0
  | n + 1 => if 0 ≤ c n then depS c n + 1 else if c n = -10 then depS c n else depS c n - 1
theorem runS_1 {x y z : Int32} {c : FA} {n : Nat} : (runS x y z c n).1 = depS c n := by
  induction n with
  | zero => rfl
  | succ n ih =>
    show (sgS x y z (c n) (runS x y z c n)).1 = _
    unfold sgS depS
    by_cases h : 0 ≤ c n
    · simp only [if_pos h, ih]
    · by_cases h2 : c n = -10
      · simp only [if_neg h, if_pos h2, ih]
      · simp only [if_neg h, if_neg h2, ih]
/-- a well made text of n signs, with so many names -/
def okS (c : FA) (nm n : Nat) : Prop := 1 ≤ n ∧ n ≤ 96 ∧ 1 ≤ depS c n ∧ ∀ k, k < n → (isBd (10000 + nm) (c k) ∨ (c k = -10 ∧ 1 ≤ depS c k) ∨ (∃ j, 1 ≤ j ∧ j < 10 ∧ c k = - nI j ∧ 2 ≤ depS c k))
def ctx (f : FA) (t : Nat) : FA := fun k => f (114 + 96 * t + k)
def lenF (f : FA) (t : Nat) : Nat := (irem (f (86 + 2 * t)) 1000).toNatClampNeg
def worthT (f : FA) (t : Nat) (x y z : Int32) : Int32 := (runS x y z (ctx f t) (lenF f t)).2 0
/-- a text of the flat row is well made -/
def txOk (f : FA) (t : Nat) : Prop := ∃ ky, ky < 3 ∧ f (86 + 2 * t) = nI (1000 * ky + lenF f t) ∧ okS (ctx f t) (if ky = 0 then 3 else 2) (lenF f t)
def hoursF (f : FA) (p : Nat) : Int32 := if countsF f 0 (cT f) < 0 then 1 else clamp (worthT f (countsF f 0 (cT f)).toNatClampNeg (f (52 + 4 * p)) (f 2) (thereF f (f (50 + 4 * p)) (cP f))) 0 9
def pcnt : Nat → Nat → Nat
  | 0, _ => 0
  | n + 1, m => pcnt n m + (if m.testBit n then 1 else 0)
def wideB (f : FA) (b : Nat) : Int32 := wideI (f (10 + 4 * b))
/-- the first bed with room in a town, from bed b on, of n -/
def freeF (f : FA) (g : Nat → Nat) (town : Int32) : Nat → Nat → Int32
  | _, 0 => -1
  | b, n + 1 => if f (11 + 4 * b) = town ∧ nI (pcnt 9 (g b)) < wideB f b then nI b else freeF f g town (b + 1) n
def bedF (f : FA) (g : Nat → Nat) (p : Nat) : Int32 := if hoursF f p = 0 then -1 else freeF f g (f (50 + 4 * p)) 0 (cB f)
def updN (g : Nat → Nat) (i v : Nat) : Nat → Nat := fun j => if j = i then v else g j
def lieF (s : FA × (Nat → Nat)) (p : Nat) : FA × (Nat → Nat) :=
  if s.1 (53 + 4 * p) = 0 then
    (if bedF s.1 s.2 p < 0 then (upd (upd s.1 6 (s.1 6 + 1)) (52 + 4 * p) (clamp (s.1 (52 + 4 * p) + 1) 0 9), s.2)
     else (s.1, updN s.2 (bedF s.1 s.2 p).toNatClampNeg (s.2 (bedF s.1 s.2 p).toNatClampNeg ||| 2 ^ p)))
  else s
def liesF (f : FA) : Nat → FA × (Nat → Nat)
  | 0 => (f, fun _ => 0)
  | p + 1 => lieF (liesF f p) p
def takesF (f : FA) (b : Nat) (many : Int32) : Int32 := takesI (f (10 + 4 * b)) (f (11 + 4 * b)) (f (12 + 4 * b)) (f (13 + 4 * b)) many (f 2)
/-- those of a set, of the first n, wake in a town -/
def wakeP (set : Nat) (town gone : Int32) (f : FA) : Nat → FA
  | 0 => f
  | n + 1 => if set.testBit n then upd (upd (upd (wakeP set town gone f n) (50 + 4 * n) town) (52 + 4 * n) 0) (53 + 4 * n) gone else wakeP set town gone f n
def wakeB (g : Nat → Nat) (f : FA) (b : Nat) : FA :=
  let many := nI (pcnt 9 (g b))
  let f1 := wakeP (g b) (takesF f b many) (if f (10 + 4 * b) = 5 then 1 else 0) f (cP f)
  let f2 := upd f1 5 (f1 5 + many)
  let f3 := upd f2 7 (f2 7 + (if f (10 + 4 * b) = 5 then many else 0))
  if 0 < many ∧ f (10 + 4 * b) = 3 then upd (upd f3 (11 + 4 * b) (f (12 + 4 * b))) (12 + 4 * b) (f (11 + 4 * b)) else f3
def wakeF (g : Nat → Nat) (f : FA) : Nat → FA
  | 0 => f
  | b + 1 => wakeB g (wakeF g f b) b
def carryF (f : FA) : FA :=
  let f1 := drawF f
  if irem (drawV f) 100 < f1 3 ∧ 0 < f1 1 then
    let f2 := drawF f1
    let b := (irem (drawV f1) (f1 1)).toNatClampNeg
    let f3 := drawF f2
    let f4 := upd f3 (11 + 4 * b) (irem (drawV f2) 8)
    upd f4 8 (f4 8 + 1)
  else f1
def nightF (f : FA) : FA :=
  let s := liesF f (cP f)
  let f1 := carryF (wakeF s.2 s.1 (cB f))
  upd f1 2 (f1 2 + 1)
def nightsF (f : FA) : Nat → FA
  | 0 => f
  | n + 1 => nightF (nightsF f n)
/-- a land of the class shows a flat row, below the counts -/
def LR (M : Mem) (l : Nat) (f : FA) : Prop :=
  (M 1 l 0 2 = f 1 ∧ M 1 l 0 10 = f 2 ∧ M 1 l 0 5 = f 3 ∧ M 1 l 0 4 = f 4 ∧ M 1 l 0 6 = f 5 ∧ M 1 l 0 7 = f 6 ∧ M 1 l 0 8 = f 7 ∧ M 1 l 0 9 = f 8 ∧ M 1 l 0 12 = f 9 ∧ M 1 l 0 11 = f 0) ∧
  (∀ b, b < cB f → M 3 l b 0 = f (10 + 4 * b) ∧ M 3 l b 1 = f (11 + 4 * b) ∧ M 3 l b 2 = f (12 + 4 * b) ∧ M 3 l b 3 = f (13 + 4 * b)) ∧
  (∀ p, p < cP f → M 5 l p 0 = f (50 + 4 * p) ∧ M 5 l p 1 = f (51 + 4 * p) ∧ M 5 l p 2 = f (52 + 4 * p) ∧ M 5 l p 3 = f (53 + 4 * p))
/-- with counts in range -/
def LL (M : Mem) (l : Nat) (f : FA) : Prop := CN f ∧ LR M l f
section LLs
variable {M : Mem} {l : Nat} {f : FA}
theorem LL.bc (h : LL M l f) : M 1 l 0 2 = nI (cB f) := h.2.1.1.trans h.1.1
theorem LL.pc (h : LL M l f) : M 1 l 0 4 = nI (cP f) := h.2.1.2.2.2.1.trans h.1.2.2.1
theorem LL.tc (h : LL M l f) : M 1 l 0 12 = nI (cT f) := h.2.1.2.2.2.2.2.2.2.2.1.trans h.1.2.2.2.2.1
theorem LL.b10 (h : LL M l f) : cB f ≤ 10 := h.1.2.1
theorem LL.p9 (h : LL M l f) : cP f ≤ 9 := h.1.2.2.2.1
theorem LL.t14 (h : LL M l f) : cT f ≤ 14 := h.1.2.2.2.2.2
theorem LL.night (h : LL M l f) : M 1 l 0 10 = f 2 := h.2.1.2.1
theorem LL.carry (h : LL M l f) : M 1 l 0 5 = f 3 := h.2.1.2.2.1
theorem LL.slept (h : LL M l f) : M 1 l 0 6 = f 5 := h.2.1.2.2.2.2.1
theorem LL.awake (h : LL M l f) : M 1 l 0 7 = f 6 := h.2.1.2.2.2.2.2.1
theorem LL.lost (h : LL M l f) : M 1 l 0 8 = f 7 := h.2.1.2.2.2.2.2.2.1
theorem LL.carried (h : LL M l f) : M 1 l 0 9 = f 8 := h.2.1.2.2.2.2.2.2.2.1
theorem LL.z (h : LL M l f) : M 1 l 0 11 = f 0 := h.2.1.2.2.2.2.2.2.2.2.2
theorem LL.kind (h : LL M l f) {b : Nat} (hb : b < cB f) : M 3 l b 0 = f (10 + 4 * b) := (h.2.2.1 b hb).1
theorem LL.at (h : LL M l f) {b : Nat} (hb : b < cB f) : M 3 l b 1 = f (11 + 4 * b) := (h.2.2.1 b hb).2.1
theorem LL.to (h : LL M l f) {b : Nat} (hb : b < cB f) : M 3 l b 2 = f (12 + 4 * b) := (h.2.2.1 b hb).2.2.1
theorem LL.other (h : LL M l f) {b : Nat} (hb : b < cB f) : M 3 l b 3 = f (13 + 4 * b) := (h.2.2.1 b hb).2.2.2
theorem LL.town (h : LL M l f) {p : Nat} (hp : p < cP f) : M 5 l p 0 = f (50 + 4 * p) := (h.2.2.2 p hp).1
theorem LL.home (h : LL M l f) {p : Nat} (hp : p < cP f) : M 5 l p 1 = f (51 + 4 * p) := (h.2.2.2 p hp).2.1
theorem LL.tired (h : LL M l f) {p : Nat} (hp : p < cP f) : M 5 l p 2 = f (52 + 4 * p) := (h.2.2.2 p hp).2.2.1
theorem LL.gone (h : LL M l f) {p : Nat} (hp : p < cP f) : M 5 l p 3 = f (53 + 4 * p) := (h.2.2.2 p hp).2.2.2
end LLs
theorem mz_at {M : Mem} {k i j s : Nat} {v : Int32} : mu M k i j s v k i j s = v := by simp [mu, mr, upd]
theorem mz_sl {M : Mem} {k i j s t : Nat} {v : Int32} (h : t ≠ s) : mu M k i j s v k i j t = M k i j t := by simp [mu, mr, upd, h]
theorem mz_ne {M : Mem} {k i j s k' i' j' : Nat} {v : Int32} (h : ¬ (k' = k ∧ i' = i ∧ j' = j)) : mu M k i j s v k' i' j' = M k' i' j' := mr_ne h
theorem mz_k {M : Mem} {k i j s k' : Nat} {v : Int32} (h : k' ≠ k) : mu M k i j s v k' = M k' := mr_k h
