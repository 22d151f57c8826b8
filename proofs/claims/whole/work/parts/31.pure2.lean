-- 31.pure2: a land as a flat row of numbers: the pure functions of a night
abbrev FA : Type := Nat → Int32
def cB (f : FA) : Nat := (f 1).toNatClampNeg
def cP (f : FA) : Nat := (f 4).toNatClampNeg
def cT (f : FA) : Nat := (f 9).toNatClampNeg
def ushr8 (x : Int32) : Int32 := (x.toUInt32 >>> ((8 : Int32).toUInt32 &&& Int32.toUInt32 31)).toInt32
def drawZ (f : FA) : Int32 := f 0 * 1103515245 + 12345
def drawF (f : FA) : FA := upd f 0 (drawZ f)
def drawV (f : FA) : Int32 := ushr8 (drawZ f)
def clamp (v lo hi : Int32) : Int32 := if v < lo then lo else if hi < v then hi else v
/-- those in a town who aren't gone, of the first n -/
def thereF (f : FA) (town : Int32) : Nat → Int32
  | 0 => 0
  | n + 1 => thereF f town n + (if f (50 + 4 * n) = town ∧ f (53 + 4 * n) = 0 then 1 else 0)
/-- the newest text of a key, of the first n -/
def countsF (f : FA) (key : Int32) : Nat → Option Nat
  | 0 => none
  | n + 1 => if f (86 + 2 * n) / 1000 = key then some n else countsF f key n
def twoF (g a b : Int32) : Int32 :=
  if g = -1 then (if ¬ a = 0 ∨ ¬ b = 0 then 1 else 0) else if g = -2 then (if ¬ a = 0 ∧ ¬ b = 0 then 1 else 0) else if g = -3 then (if a < b then 1 else 0) else if g = -4 then (if a = b then 1 else 0)
  else if g = -5 then (if b < a then 1 else 0) else if g = -6 then a + b else if g = -7 then a - b else if g = -8 then a * b else if b = 0 then 0 else a / b
/-- one sign of a text, over a stack (its top first) -/
def sgnF (x y z v : Int32) (st : List Int32) : List Int32 :=
  if 0 ≤ v then (if v < 10000 then v else if v = 10000 then x else if v = 10001 then y else z) :: st
  else if v = -10 then (match st with
    | a :: r => (if a = 0 then 1 else 0) :: r
    | [] => [])
  else (match st with
    | b :: a :: r => twoF v a b :: r
    | _ => [])
def runF (x y z : Int32) (c : Nat → Int32) : Nat → List Int32
  | 0 => []
  | n + 1 => sgnF x y z (c n) (runF x y z c n)
def lenF (f : FA) (t : Nat) : Nat := (irem (f (86 + 2 * t)) 1000).toNatClampNeg
def worthT (f : FA) (t : Nat) (x y z : Int32) : Int32 := (runF x y z (fun k => f (114 + 96 * t + k)) (lenF f t)).getLastD 0
def hoursF (f : FA) (p : Nat) : Int32 := match countsF f 0 (cT f) with
  | none => 1
  | some t => clamp (worthT f t (f (52 + 4 * p)) (f 2) (thereF f (f (50 + 4 * p)) (cP f))) 0 9
def pcnt : Nat → Nat → Nat
  | 0, _ => 0
  | n + 1, m => pcnt n m + (if m.testBit n then 1 else 0)
def wideB (f : FA) (b : Nat) : Int32 := wideF (f (10 + 4 * b))
/-- the first bed with room in a town, from bed b on -/
def freeF (f : FA) (g : Nat → Nat) (town : Int32) : Nat → Nat → Option Nat
  | _, 0 => none
  | b, n + 1 => if f (11 + 4 * b) = town ∧ nI (pcnt 9 (g b)) < wideB f b then some b else freeF f g town (b + 1) n
def bedF (f : FA) (g : Nat → Nat) (p : Nat) : Option Nat := if hoursF f p = 0 then none else freeF f g (f (50 + 4 * p)) 0 (cB f)
def updN (g : Nat → Nat) (i v : Nat) : Nat → Nat := fun j => if j = i then v else g j
def lieF (s : FA × (Nat → Nat)) (p : Nat) : FA × (Nat → Nat) :=
  if s.1 (53 + 4 * p) = 0 then (match bedF s.1 s.2 p with
    | some b => (s.1, updN s.2 b (s.2 b ||| 2 ^ p))
    | none => (upd (upd s.1 6 (s.1 6 + 1)) (52 + 4 * p) (clamp (s.1 (52 + 4 * p) + 1) 0 9), s.2))
  else s
def liesF (f : FA) : Nat → FA × (Nat → Nat)
  | 0 => (f, fun _ => 0)
  | p + 1 => lieF (liesF f p) p
def takesF (f : FA) (b : Nat) (many : Int32) : Int32 := if f (10 + 4 * b) = 1 ∧ ¬ many = 2 then f (11 + 4 * b) else if f (10 + 4 * b) = 4 ∧ ¬ irem (f 2) 2 = 0 then f (13 + 4 * b) else f (12 + 4 * b)
/-- those of a set, of the first n, wake in a town -/
def wakeP (set : Nat) (town gone : Int32) (f : FA) : Nat → FA
  | 0 => f
  | n + 1 => let h := wakeP set town gone f n
    if set.testBit n then upd (upd (upd h (50 + 4 * n) town) (52 + 4 * n) 0) (53 + 4 * n) gone else h
def wakeB (g : Nat → Nat) (f : FA) (b : Nat) : FA :=
  let many := nI (pcnt 9 (g b))
  let pl := f (10 + 4 * b) = 5
  let f1 := wakeP (g b) (takesF f b many) (if pl then 1 else 0) f (cP f)
  let f2 := upd f1 5 (f1 5 + many)
  let f3 := upd f2 7 (f2 7 + (if pl then many else 0))
  if 0 < pcnt 9 (g b) ∧ f (10 + 4 * b) = 3 then upd (upd f3 (11 + 4 * b) (f (12 + 4 * b))) (12 + 4 * b) (f (11 + 4 * b)) else f3
def wakeF (g : Nat → Nat) (f : FA) : Nat → FA
  | 0 => f
  | b + 1 => wakeB g (wakeF g f b) b
def carryF (f : FA) : FA :=
  let f1 := drawF f
  if irem (drawV f) 100 < f1 3 ∧ 0 < f1 1 then
    let f2 := drawF f1
    let b := (irem (drawV f1) (f1 1)).toNatClampNeg
    let f3 := drawF f2
    let f4 := upd f3 (11 + 4 * b) (irem (drawV f2) 8)
    upd f4 8 (f4 8 + 1)
  else f1
def nightF (f : FA) : FA :=
  let s := liesF f (cP f)
  let f1 := carryF (wakeF s.2 s.1 (cB f))
  upd f1 2 (f1 2 + 1)
def nightsF (f : FA) : Nat → FA
  | 0 => f
  | n + 1 => nightF (nightsF f n)
/-- a land of the class shows a flat row, below the counts -/
def LR (M : Mem) (l : Nat) (f : FA) : Prop :=
  (M 1 l 0 2 = f 1 ∧ M 1 l 0 10 = f 2 ∧ M 1 l 0 5 = f 3 ∧ M 1 l 0 4 = f 4 ∧ M 1 l 0 6 = f 5 ∧ M 1 l 0 7 = f 6 ∧ M 1 l 0 8 = f 7 ∧ M 1 l 0 9 = f 8 ∧ M 1 l 0 12 = f 9 ∧ M 1 l 0 11 = f 0) ∧
  (∀ b, b < cB f → M 3 l b 0 = f (10 + 4 * b) ∧ M 3 l b 1 = f (11 + 4 * b) ∧ M 3 l b 2 = f (12 + 4 * b) ∧ M 3 l b 3 = f (13 + 4 * b)) ∧
  (∀ p, p < cP f → M 5 l p 0 = f (50 + 4 * p) ∧ M 5 l p 1 = f (51 + 4 * p) ∧ M 5 l p 2 = f (52 + 4 * p) ∧ M 5 l p 3 = f (53 + 4 * p))
