-- 02.mini: a small machine over fixed cells: values, memory, one step, total correctness (layout rows by program gen02.py)
abbrev Id3 : Type := Nat × Nat × Nat
abbrev AV : Type := Int32 ⊕ Id3
abbrev Mem : Type := Nat → Nat → Nat → Nat → Int32
abbrev LV : Type := List (Option AV)
abbrev Ent : Type := (Instr × Nat) × Nat × Nat × Int32 × List (Int32 × Nat)
abbrev CF : Type := Nat → LV → List AV → Mem → Prop
abbrev PQ : Type := Option AV → Mem → Prop
abbrev GA : Type := Nat → List AV → Mem → PQ → Prop
abbrev Tab : Type := List (List (Option Ent))
/-- own class, kind (0 instance, 1 static), name, bytes, locals, return type, table -/
abbrev MRec : Type := Nat × Nat × MethodName × ByteArray × Nat × Option FieldType × Tab
def mr (M : Mem) (k i j : Nat) (f : Nat → Int32) : Mem := fun k' i' j' => if k' = k ∧ i' = i ∧ j' = j then f else M k' i' j'
def mu (M : Mem) (k i j s : Nat) (v : Int32) : Mem := mr M k i j (upd (M k i j) s v)
def irem (x y : Int32) : Int32 := x - x / y * y
def kcls (k : Nat) : Nat := match k with
  | 0 => 9
  | 1 => 1
  | 3 => 0
  | 5 => 3
  | 6 => 2
  | 9 => 7
  | 11 => 4
  | 13 => 8
  | 16 => 5
  | 19 => 6
  | 30 => 10
  | _ => 99
def aty (k : Nat) : Nat := match k with
  | 2 => 3
  | 4 => 4
  | 7 => 5
  | 8 => 0
  | 10 => 0
  | 12 => 0
  | 14 => 0
  | 15 => 6
  | 17 => 0
  | 18 => 7
  | 20 => 0
  | 31 => 0
  | 32 => 0
  | 33 => 0
  | 35 => 0
  | 36 => 0
  | 37 => 0
  | 38 => 0
  | 39 => 0
  | 40 => 0
  | 48 => 2
  | 49 => 0
  | 50 => 0
  | 53 => 0
  | 55 => 1
  | 56 => 0
  | 57 => 0
  | 58 => 0
  | 59 => 0
  | 60 => 0
  | 61 => 0
  | 62 => 0
  | 63 => 0
  | 64 => 0
  | 65 => 0
  | 66 => 0
  | _ => 99
def alen (k : Nat) : Nat := match k with
  | 2 => 10
  | 4 => 9
  | 7 => 15
  | 8 => 96
  | 10 => 96
  | 12 => 96
  | 14 => 8
  | 15 => 4
  | 17 => 24
  | 18 => 5
  | 20 => 60
  | 31 => 1458
  | 32 => 1458
  | 33 => 1458
  | 35 => 10
  | 36 => 8
  | 37 => 8
  | 38 => 86
  | 39 => 9
  | 40 => 96
  | 48 => 12
  | 49 => 4
  | 50 => 96
  | 53 => 96
  | 55 => 10
  | 56 => 96
  | 57 => 4
  | 58 => 4
  | 59 => 4
  | 60 => 96
  | 61 => 5
  | 62 => 5
  | 63 => 5
  | 64 => 120
  | 65 => 24
  | 66 => 60
  | _ => 0
def aref (k i n : Nat) : Id3 := match k with
  | 2 => (3, i, n)
  | 4 => (5, i, n)
  | 7 => (9, n, 0)
  | 15 => (16, n, 0)
  | 18 => (19, n, 0)
  | _ => (0, 0, 0)
def gfv (M : Mem) (k i j s : Nat) : AV := match k with
  | 0 => (match s with
    | 0 => .inr (6, 0, 0)
    | 1 => .inr (11, 0, 0)
    | 2 => .inr (1, 0, 0)
    | 3 => .inr (1, 1, 0)
    | 4 => .inr (1, 2, 0)
    | 6 => .inr (13, 0, 0)
    | 7 => .inr (15, 0, 0)
    | 8 => .inr (18, 0, 0)
    | 9 => .inr (20, 0, 0)
    | s => .inl (M 0 i j s))
  | 1 => (match s with
    | 0 => .inr (6, 0, 0)
    | 1 => .inr (2, i, 0)
    | 3 => .inr (4, i, 0)
    | s => .inl (M 1 i j s))
  | 6 => (match s with
    | 0 => .inr (7, 0, 0)
    | 1 => .inr (8, 0, 0)
    | s => .inl (M 6 i j s))
  | 9 => (match s with
    | 1 => .inr (10, i, 0)
    | s => .inl (M 9 i j s))
  | 11 => (match s with
    | 0 => .inr (12, 0, 0)
    | 6 => .inr (9, (M 11 0 0 6).toNatClampNeg, 0)
    | s => .inl (M 11 i j s))
  | 13 => (match s with
    | 0 => .inr (1, 0, 0)
    | 1 => .inr (14, 0, 0)
    | s => .inl (M 13 i j s))
  | 16 => (match s with
    | 2 => .inr (17, i, 0)
    | s => .inl (M 16 i j s))
  | 19 => (match s with
    | 1 => .inr (3, 3, i)
    | 2 => .inr (16, i + 4, 0)
    | s => .inl (M 19 i j s))
  | 30 => (match s with
    | 0 => .inr (31, 0, 0)
    | 1 => .inr (32, 0, 0)
    | 2 => .inr (33, 0, 0)
    | 4 => .inr (35, 0, 0)
    | 5 => .inr (36, 0, 0)
    | 6 => .inr (37, 0, 0)
    | 7 => .inr (38, 0, 0)
    | 8 => .inr (39, 0, 0)
    | 9 => .inr (40, 0, 0)
    | 17 => .inr (48, 0, 0)
    | 18 => .inr (49, 0, 0)
    | 19 => .inr (50, 0, 0)
    | 22 => .inr (53, 0, 0)
    | 24 => .inr (55, 0, 0)
    | 25 => .inr (56, 0, 0)
    | 26 => .inr (57, 0, 0)
    | 27 => .inr (58, 0, 0)
    | 28 => .inr (59, 0, 0)
    | 29 => .inr (60, 0, 0)
    | 30 => .inr (61, 0, 0)
    | 31 => .inr (62, 0, 0)
    | 32 => .inr (63, 0, 0)
    | 33 => .inr (64, 0, 0)
    | 34 => .inr (65, 0, 0)
    | 35 => .inr (66, 0, 0)
    | s => .inl (M 30 i j s))
  | k => .inl (M k i j s)
/-- a class, a slot: 0 int, 1 boolean, 2 reference for good, 3 the draft -/
def fty (k s : Nat) : Nat := match k with
  | 1 => (match s with
    | 0 => 2
    | 1 => 2
    | 3 => 2
    | _ => 0)
  | 2 => (match s with
    | 0 => 2
    | 1 => 2
    | _ => 0)
  | 4 => (match s with
    | 0 => 2
    | 6 => 3
    | _ => 0)
  | 5 => (match s with
    | 2 => 2
    | _ => 0)
  | 6 => (match s with
    | 1 => 2
    | 2 => 2
    | _ => 0)
  | 7 => (match s with
    | 1 => 2
    | _ => 0)
  | 8 => (match s with
    | 0 => 2
    | 1 => 2
    | _ => 0)
  | 9 => (match s with
    | 0 => 2
    | 1 => 2
    | 2 => 2
    | 3 => 2
    | 4 => 2
    | 5 => 1
    | 6 => 2
    | 7 => 2
    | 8 => 2
    | 9 => 2
    | _ => 0)
  | 10 => (match s with
    | 0 => 2
    | 1 => 2
    | 2 => 2
    | 3 => 1
    | 4 => 2
    | 5 => 2
    | 6 => 2
    | 7 => 2
    | 8 => 2
    | 9 => 2
    | 17 => 2
    | 18 => 2
    | 19 => 2
    | 22 => 2
    | 24 => 2
    | 25 => 2
    | 26 => 2
    | 27 => 2
    | 28 => 2
    | 29 => 2
    | 30 => 2
    | 31 => 2
    | 32 => 2
    | 33 => 2
    | 34 => 2
    | 35 => 2
    | _ => 0)
  | _ => 0
/-- how many slots an object of a class has -/
def NF (k : Nat) : Nat := match k with
  | 0 => 5
  | 1 => 13
  | 2 => 2
  | 3 => 5
  | 4 => 7
  | 5 => 3
  | 6 => 4
  | 7 => 4
  | 8 => 2
  | 9 => 11
  | 10 => 37
  | _ => 0
def cids : List Id3 := [(0, 0, 0), (1, 0, 0), (2, 0, 0), (3, 0, 0), (3, 0, 1), (3, 0, 2), (3, 0, 3), (3, 0, 4), (3, 0, 5), (3, 0, 6), (3, 0, 7), (3, 0, 8), (3, 0, 9), (4, 0, 0), (5, 0, 0), (5, 0, 1), (5, 0, 2), (5, 0, 3), (5, 0, 4), (5, 0, 5), (5, 0, 6), (5, 0, 7), (5, 0, 8), (1, 1, 0), (2, 1, 0), (3, 1, 0), (3, 1, 1), (3, 1, 2), (3, 1, 3), (3, 1, 4), (3, 1, 5), (3, 1, 6), (3, 1, 7), (3, 1, 8), (3, 1, 9), (4, 1, 0), (5, 1, 0), (5, 1, 1), (5, 1, 2), (5, 1, 3), (5, 1, 4), (5, 1, 5), (5, 1, 6), (5, 1, 7), (5, 1, 8), (1, 2, 0), (2, 2, 0), (3, 2, 0), (3, 2, 1), (3, 2, 2), (3, 2, 3), (3, 2, 4), (3, 2, 5), (3, 2, 6), (3, 2, 7), (3, 2, 8), (3, 2, 9), (4, 2, 0), (5, 2, 0), (5, 2, 1), (5, 2, 2), (5, 2, 3), (5, 2, 4), (5, 2, 5), (5, 2, 6), (5, 2, 7), (5, 2, 8), (3, 3, 0), (3, 3, 1), (3, 3, 2), (3, 3, 3), (3, 3, 4), (6, 0, 0), (7, 0, 0), (8, 0, 0), (9, 0, 0), (10, 0, 0), (9, 1, 0), (10, 1, 0), (9, 2, 0), (10, 2, 0), (9, 3, 0), (10, 3, 0), (9, 4, 0), (10, 4, 0), (9, 5, 0), (10, 5, 0), (9, 6, 0), (10, 6, 0), (9, 7, 0), (10, 7, 0), (9, 8, 0), (10, 8, 0), (9, 9, 0), (10, 9, 0), (9, 10, 0), (10, 10, 0), (9, 11, 0), (10, 11, 0), (9, 12, 0), (10, 12, 0), (9, 13, 0), (10, 13, 0), (9, 14, 0), (10, 14, 0), (9, 15, 0), (10, 15, 0), (11, 0, 0), (12, 0, 0), (13, 0, 0), (14, 0, 0), (15, 0, 0), (16, 0, 0), (17, 0, 0), (16, 1, 0), (17, 1, 0), (16, 2, 0), (17, 2, 0), (16, 3, 0), (17, 3, 0), (16, 4, 0), (17, 4, 0), (16, 5, 0), (17, 5, 0), (16, 6, 0), (17, 6, 0), (16, 7, 0), (17, 7, 0), (16, 8, 0), (17, 8, 0), (18, 0, 0), (19, 0, 0), (19, 1, 0), (19, 2, 0), (19, 3, 0), (19, 4, 0), (20, 0, 0), (30, 0, 0), (31, 0, 0), (32, 0, 0), (33, 0, 0), (35, 0, 0), (36, 0, 0), (37, 0, 0), (38, 0, 0), (39, 0, 0), (40, 0, 0), (48, 0, 0), (49, 0, 0), (50, 0, 0), (53, 0, 0), (55, 0, 0), (56, 0, 0), (57, 0, 0), (58, 0, 0), (59, 0, 0), (60, 0, 0), (61, 0, 0), (62, 0, 0), (63, 0, 0), (64, 0, 0), (65, 0, 0), (66, 0, 0)]
def sIdx : List Nat := [74, 80, 82, 84, 86, 88, 101, 103, 105, 107, 109]
def sTxt : List String := ["hours", "fee", "fine", "tnw", "sa", "fo", "|", "&", "<=>", "+-", "*/"]
def sByt : List (List Int32) := [[104, 111, 117, 114, 115], [102, 101, 101], [102, 105, 110, 101], [116, 110, 119], [115, 97], [102, 111], [124], [38], [60, 61, 62], [43, 45], [42, 47]]
def sLen (i : Nat) : Nat := (sByt.getD i []).length
def chk (c : Prop) [Decidable c] (K : Prop) : Prop := if c then K else False
theorem chk_iff {c : Prop} [Decidable c] {K : Prop} : chk c K ↔ c ∧ K := by
  unfold chk
  by_cases h : c
  · rw [if_pos h]; exact ⟨fun q => ⟨h, q⟩, fun q => q.2⟩
  · rw [if_neg h]; exact ⟨fun q => q.elim, fun q => h q.1⟩
theorem chk_mono {c : Prop} [Decidable c] {K K' : Prop} (hk : K → K') (q : chk c K) : chk c K' := chk_iff.mpr ⟨(chk_iff.mp q).1, hk (chk_iff.mp q).2⟩
def topI (st : List AV) (K : Int32 → List AV → Prop) : Prop := match st with
  | .inl x :: r => K x r
  | _ => False
def topII (st : List AV) (K : Int32 → Int32 → List AV → Prop) : Prop := match st with
  | .inl y :: .inl x :: r => K x y r
  | _ => False
def topR (st : List AV) (K : Nat → Nat → Nat → List AV → Prop) : Prop := match st with
  | .inr (k, i, j) :: r => K k i j r
  | _ => False
def topIR (st : List AV) (K : Int32 → Nat → Nat → Nat → List AV → Prop) : Prop := match st with
  | .inl x :: .inr (k, i, j) :: r => K x k i j r
  | _ => False
def topIIR (st : List AV) (K : Int32 → Int32 → Nat → Nat → Nat → List AV → Prop) : Prop := match st with
  | .inl z :: .inl x :: .inr (k, i, j) :: r => K z x k i j r
  | _ => False
def topV (st : List AV) (K : AV → List AV → Prop) : Prop := match st with
  | v :: r => K v r
  | _ => False
def topVV (st : List AV) (K : AV → AV → List AV → Prop) : Prop := match st with
  | v :: u :: r => K v u r
  | _ => False
def topVR (st : List AV) (K : AV → Nat → Nat → Nat → List AV → Prop) : Prop := match st with
  | v :: .inr (k, i, j) :: r => K v k i j r
  | _ => False
def topCp (st : List AV) (K : Int32 → Int32 → Id3 → Int32 → Id3 → List AV → Prop) : Prop := match st with
  | .inl n :: .inl dp :: .inr c1 :: .inl sp :: .inr c0 :: r => K n dp c1 sp c0 r
  | _ => False
def locI (lv : LV) (a : Nat) (K : Int32 → Prop) : Prop := match lv.getD a none with
  | some (.inl x) => K x
  | _ => False
def locR (lv : LV) (a : Nat) (K : Id3 → Prop) : Prop := match lv.getD a none with
  | some (.inr c) => K c
  | _ => False
def cmpP (c : Jvm.ClassFile.Cond) (x y : Int32) (t f : Prop) : Prop := match c with
  | .eq => (x = y → t) ∧ (¬ x = y → f)
  | .ne => (¬ x = y → t) ∧ (x = y → f)
  | .lt => (x < y → t) ∧ (¬ x < y → f)
  | .ge => (y ≤ x → t) ∧ (¬ y ≤ x → f)
  | .gt => (y < x → t) ∧ (¬ y < x → f)
  | .le => (x ≤ y → t) ∧ (¬ x ≤ y → f)
def swP (tb : List (Int32 × Nat)) (x : Int32) (d : Nat) (K : Nat → Prop) : Prop := match tb with
  | [] => K d
  | (v, t) :: r => (x = v → K t) ∧ (¬ x = v → swP r x d K)
def getP (M : Mem) (k i j a b : Nat) (K : AV → Prop) : Prop :=
  match a with
  | 100 => (match b with
    | 0 => chk (k = 80) (K (.inr (81, i, 0)))
    | _ => chk (k = 80) (K (.inl 0)))
  | 4 => (match b with
    | 6 => chk (k = 11) ((M 11 0 0 6).toNatClampNeg < 16 ∧ K (gfv M 11 0 0 6))
    | b => chk (kcls k = 4) (K (gfv M k i j b)))
  | a => chk (kcls k = a) (K (gfv M k i j b))
def putP (M : Mem) (v : AV) (k i j a b : Nat) (K : Mem → Prop) : Prop :=
  match fty a b, v with
  | 0, .inl z => chk (kcls k = a) (K (mu M k i j b z))
  | 1, .inl z => chk (kcls k = a) ((z = 0 ∨ z = 1) ∧ K (mu M k i j b z))
  | 3, .inr c => chk (kcls k = a ∧ c.1 = 9 ∧ c.2.2 = 0) (K (mu M k i j b (nI c.2.1)))
  | _, _ => False
def retP (ret : Option FieldType) (v : Int32) (K : Prop) : Prop := match ret with
  | some .int => K
  | some ty => narrow ty (.int v) = .int v ∧ K
  | none => False
def retI (st : List AV) (K : Int32 → Prop) : Prop := match st with
  | [.inl v] => K v
  | _ => False
def retA (st : List AV) (K : Nat → Nat → Nat → Prop) : Prop := match st with
  | [.inr (k, i, j)] => K k i j
  | _ => False
def retV (st : List AV) (K : Prop) : Prop := match st with
  | [] => K
  | _ => False
def no90 : AV → Bool
  | .inl _ => true
  | .inr c => c.1 != 90
def isObj (t : Option FieldType) : Bool := match t with
  | some (.object _) => true
  | _ => false
def callP (Γ : GA) (mid n : Nat) (st : List AV) (M : Mem) (K : List AV → Mem → Prop) : Prop :=
  if n ≤ st.length ∧ st.length ≤ 8 ∧ st.all no90 = true then Γ mid ((st.take n).reverse) M (fun r M' => K (r.toList ++ st.drop n) M') else False
def copyP (st : List AV) (M : Mem) (K : List AV → Mem → Prop) : Prop :=
  topCp st fun n dp c1 sp c0 r => chk (aty c0.1 = 0 ∧ aty c1.1 = 0 ∧ r.length ≤ 8) <| (¬ sp < 0 ∧ ¬ dp < 0 ∧ ¬ n < 0 ∧ sp.toNatClampNeg + n.toNatClampNeg ≤ alen c0.1 ∧ dp.toNatClampNeg + n.toNatClampNeg ≤ alen c1.1) ∧
    K r (mr M c1.1 c1.2.1 c1.2.2 (va_cpy (M c0.1 c0.2.1 c0.2.2) (M c1.1 c1.2.1 c1.2.2) sp.toNatClampNeg dp.toNatClampNeg n.toNatClampNeg))
def ialdP (M : Mem) (x : Int32) (k i j : Nat) (K : Int32 → Prop) : Prop :=
  match k with
  | 90 => vp_in x (M 91 0 0 0).toNatClampNeg ∧ K (M 90 0 0 x.toNatClampNeg)
  | k => chk (aty k = 0) (vp_in x (alen k) ∧ K (M k i j x.toNatClampNeg))
def baldP (M : Mem) (x : Int32) (k i j : Nat) (K : Int32 → Prop) : Prop :=
  match k with
  | 81 => vp_in x (sLen i) ∧ K ((sByt.getD i []).getD x.toNatClampNeg 0)
  | k => chk (aty k = 1) (vp_in x (alen k) ∧ K (M k i j x.toNatClampNeg))
def alenP (M : Mem) (k i : Nat) (K : Int32 → Prop) : Prop :=
  match k with
  | 81 => K (nI (sLen i))
  | 90 => K (M 91 0 0 0)
  | k => chk (aty k = 0) (K (nI (alen k)))
def statP (Γ : GA) (mid n : Nat) (st : List AV) (M : Mem) (K : List AV → Mem → Prop) : Prop := match n with
  | 105 => copyP st M K
  | 106 => topI st fun x r => chk (r.length ≤ 8) (K (.inl (if 0 ≤ x then x else 0 - x) :: r) M)
  | 107 => topII st fun x y r => chk (r.length ≤ 8) (K (.inl (if x < y then y else x) :: r) M)
  | 108 => topII st fun x y r => chk (r.length ≤ 8) (K (.inl (if y < x then y else x) :: r) M)
  | n => callP Γ mid n st M K
def kcl2 (k : Nat) : Nat := match k with
  | 80 => 12
  | k => kcls k
def virtP (Γ : GA) (mid n : Nat) (tb : List (Int32 × Nat)) (st : List AV) (M : Mem) (K : List AV → Mem → Prop) : Prop := match st.drop (n - 1), tb with
  | .inr (k, _, _) :: _, [(_, o)] => chk (0 < n ∧ kcl2 k = o) (callP Γ mid n st M K)
  | _, _ => False
def step (Γ : GA) (ret : Option FieldType) (e : Ent) (pc : Nat) (lv : LV) (st : List AV) (M : Mem) (S : CF) (Q : PQ) : Prop :=
  match e with | ((ins, _), a, b, c0, tb) => match ins with
  | .iconst _ => S (pc + 1) lv (.inl c0 :: st) M
  | .bipush _ => S (pc + 2) lv (.inl c0 :: st) M
  | .sipush _ => S (pc + 3) lv (.inl c0 :: st) M
  | .ldc _ => (match a with
    | 0 => S (pc + 2) lv (.inl c0 :: st) M
    | _ => S (pc + 2) lv (.inr (80, b, 0) :: st) M)
  | .ldc_w _ => S (pc + 3) lv (.inl c0 :: st) M
  | .iload_n _ => locI lv a fun x => S (pc + 1) lv (.inl x :: st) M
  | .iload _ => locI lv a fun x => S (pc + 2) lv (.inl x :: st) M
  | .aload_n _ => locR lv a fun c => chk (c.1 ≠ 82) (S (pc + 1) lv (.inr c :: st) M)
  | .aload _ => locR lv a fun c => chk (c.1 ≠ 82) (S (pc + 2) lv (.inr c :: st) M)
  | .istore_n _ => topI st fun x r => chk (a < lv.length) (S (pc + 1) (lv.set a (some (.inl x))) r M)
  | .istore _ => topI st fun x r => chk (a < lv.length) (S (pc + 2) (lv.set a (some (.inl x))) r M)
  | .astore_n _ => topR st fun k i j r => chk (k ≠ 82 ∧ a < lv.length) (S (pc + 1) (lv.set a (some (.inr (k, i, j)))) r M)
  | .astore _ => topR st fun k i j r => chk (k ≠ 82 ∧ a < lv.length) (S (pc + 2) (lv.set a (some (.inr (k, i, j)))) r M)
  | .iinc _ _ => locI lv a fun x => S (pc + 3) (lv.set a (some (.inl (x + c0)))) st M
  | .iadd => topII st fun x y r => S (pc + 1) lv (.inl (x + y) :: r) M
  | .isub => topII st fun x y r => S (pc + 1) lv (.inl (x - y) :: r) M
  | .imul => topII st fun x y r => S (pc + 1) lv (.inl (x * y) :: r) M
  | .idiv => topII st fun x y r => ¬ y = 0 ∧ S (pc + 1) lv (.inl (x / y) :: r) M
  | .irem => topII st fun x y r => ¬ y = 0 ∧ S (pc + 1) lv (.inl (irem x y) :: r) M
  | .ineg => topI st fun x r => S (pc + 1) lv (.inl (-x) :: r) M
  | .iand => topII st fun x y r => S (pc + 1) lv (.inl (x &&& y) :: r) M
  | .ior => topII st fun x y r => S (pc + 1) lv (.inl (x ||| y) :: r) M
  | .ishl => topII st fun x y r => S (pc + 1) lv (.inl (x <<< (y &&& 31)) :: r) M
  | .ishr => topII st fun x y r => S (pc + 1) lv (.inl (x >>> (y &&& 31)) :: r) M
  | .iushr => topII st fun x y r => S (pc + 1) lv (.inl (x.toUInt32 >>> (y.toUInt32 &&& Int32.toUInt32 31)).toInt32 :: r) M
  | .i2b => topI st fun x r => S (pc + 1) lv (.inl x.toInt8.toInt32 :: r) M
  | .i2s => topI st fun x r => S (pc + 1) lv (.inl x.toInt16.toInt32 :: r) M
  | .i2c => topI st fun x r => S (pc + 1) lv (.inl (x.toUInt32 % 65536).toInt32 :: r) M
  | .dup => topV st fun v r => S (pc + 1) lv (v :: v :: r) M
  | .dup2 => topVV st fun v u r => S (pc + 1) lv (v :: u :: v :: u :: r) M
  | .pop => topV st fun _ r => S (pc + 1) lv r M
  | .goto _ => S a lv st M
  | .ifCond c _ => topI st fun x r => cmpP c x 0 (S a lv r M) (S (pc + 3) lv r M)
  | .if_icmp c _ => topII st fun x y r => cmpP c x y (S a lv r M) (S (pc + 3) lv r M)
  | .tableswitch _ _ _ _ => topI st fun x r => swP tb x a fun t => S t lv r M
  | .lookupswitch _ _ => topI st fun x r => swP tb x a fun t => S t lv r M
  | .getfield _ => topR st fun k i j r => getP M k i j a b fun v => S (pc + 3) lv (v :: r) M
  | .getstatic _ => (match a with
    | 0 => S (pc + 3) lv (.inl 1 :: st) M
    | _ => S (pc + 3) lv (.inr (82, 0, 0) :: st) M)
  | .putfield _ => topVR st fun v k i j r => putP M v k i j a b fun M' => S (pc + 3) lv r M'
  | .iaload => topIR st fun x k i j r => ialdP M x k i j fun v => S (pc + 1) lv (.inl v :: r) M
  | .iastore => topIIR st fun z x k i j r => chk (aty k = 0) (vp_in x (alen k) ∧ S (pc + 1) lv r (mu M k i j x.toNatClampNeg z))
  | .baload => topIR st fun x k i j r => baldP M x k i j fun v => S (pc + 1) lv (.inl v :: r) M
  | .bastore => topIIR st fun z x k i j r => chk (aty k = 1) (vp_in x (alen k) ∧ (z = 0 ∨ z = 1) ∧ S (pc + 1) lv r (mu M k i j x.toNatClampNeg z))
  | .caload => topIR st fun x k i j r => chk (aty k = 2) (vp_in x (alen k) ∧ S (pc + 1) lv (.inl (M k i j x.toNatClampNeg) :: r) M)
  | .aaload => topIR st fun x k i _ r => chk (3 ≤ aty k ∧ aty k ≤ 7) (vp_in x (alen k) ∧ S (pc + 1) lv (.inr (aref k i x.toNatClampNeg) :: r) M)
  | .arraylength => topR st fun k i _ r => alenP M k i fun v => S (pc + 1) lv (.inl v :: r) M
  | .invokevirtual _ => virtP Γ a b tb st M fun st' M' => S (pc + 3) lv st' M'
  | .invokestatic _ => statP Γ a b st M fun st' M' => S (pc + 3) lv st' M'
  | .ireturn => retI st fun v => retP ret v (Q (some (.inl v)) M)
  | .areturn => retA st fun k i j => chk (k = 80 ∧ isObj ret = true) <| Q (some (.inr (k, i, j))) M
  | .return_ => retV st (chk (ret.isNone = true) (Q none M))
  | _ => False
def cof (T : Tab) (pc : Nat) : Option Ent := (T.getD (pc / 16) []).getD (pc % 16) none
def stp (Γ : GA) (ret : Option FieldType) (C : Tab) (pc : Nat) (lv : LV) (st : List AV) (M : Mem) (S : CF) (Q : PQ) : Prop := match cof C pc with
  | some e => step Γ ret e pc lv st M S Q
  | none => False
def Clo (Γ : GA) (ret : Option FieldType) (C : Tab) (Q : PQ) (S : CF) : Prop := ∀ pc lv st M, stp Γ ret C pc lv st M S Q → S pc lv st M
def Tot (Γ : GA) (ret : Option FieldType) (C : Tab) (pc : Nat) (lv : LV) (st : List AV) (M : Mem) (Q : PQ) : Prop := ∀ S : CF, Clo Γ ret C Q S → S pc lv st M
def lv0 (n : Nat) (av : List AV) : LV := av.map some ++ List.replicate (n - av.length) none
def Td (P : Nat → MRec) : Nat → GA
  | 0 => fun _ _ _ _ => False
  | d + 1 => fun mid av M Q => Tot (Td P d) (P mid).2.2.2.2.2.1 (P mid).2.2.2.2.2.2 0 (lv0 (P mid).2.2.2.2.1 av) [] M Q
theorem swP_mono {tb : List (Int32 × Nat)} {x : Int32} {d : Nat} {K K' : Nat → Prop} (h : ∀ t, K t → K' t) (q : swP tb x d K) : swP tb x d K' := by
  induction tb with
  | nil => exact h _ q
  | cons a r ih => exact ⟨fun e => h _ (q.1 e), fun e => ih (q.2 e)⟩
theorem step_mono {Γ Γ' : GA} {ret : Option FieldType} {e : Ent} {pc : Nat} {lv : LV} {st : List AV} {M : Mem} {S S' : CF} {Q Q' : PQ}
    (hG : ∀ (mid : Nat) (av : List AV) (M : Mem) (Z Z' : PQ), (∀ r M, Z r M → Z' r M) → Γ mid av M Z → Γ' mid av M Z')
    (hS : ∀ pc lv st M, S pc lv st M → S' pc lv st M) (hQ : ∀ r M, Q r M → Q' r M) (h : step Γ ret e pc lv st M S Q) : step Γ' ret e pc lv st M S' Q' := by
  have hI : ∀ {st : List AV} {K K' : Int32 → List AV → Prop}, (∀ x r, K x r → K' x r) → topI st K → topI st K' := by
    intro st K K' hk q; unfold topI at *; split at q; exact hk _ _ q; exact q
  have hII : ∀ {st : List AV} {K K' : Int32 → Int32 → List AV → Prop}, (∀ x y r, K x y r → K' x y r) → topII st K → topII st K' := by
    intro st K K' hk q; unfold topII at *; split at q; exact hk _ _ _ q; exact q
  have hR : ∀ {st : List AV} {K K' : Nat → Nat → Nat → List AV → Prop}, (∀ k i j r, K k i j r → K' k i j r) → topR st K → topR st K' := by
    intro st K K' hk q; unfold topR at *; split at q; exact hk _ _ _ _ q; exact q
  have hIR : ∀ {st : List AV} {K K' : Int32 → Nat → Nat → Nat → List AV → Prop}, (∀ x k i j r, K x k i j r → K' x k i j r) → topIR st K → topIR st K' := by
    intro st K K' hk q; unfold topIR at *; split at q; exact hk _ _ _ _ _ q; exact q
  have hIIR : ∀ {st : List AV} {K K' : Int32 → Int32 → Nat → Nat → Nat → List AV → Prop}, (∀ z x k i j r, K z x k i j r → K' z x k i j r) → topIIR st K → topIIR st K' := by
    intro st K K' hk q; unfold topIIR at *; split at q; exact hk _ _ _ _ _ _ q; exact q
  have hV : ∀ {st : List AV} {K K' : AV → List AV → Prop}, (∀ x r, K x r → K' x r) → topV st K → topV st K' := by
    intro st K K' hk q; unfold topV at *; split at q; exact hk _ _ q; exact q
  have hVV : ∀ {st : List AV} {K K' : AV → AV → List AV → Prop}, (∀ x y r, K x y r → K' x y r) → topVV st K → topVV st K' := by
    intro st K K' hk q; unfold topVV at *; split at q; exact hk _ _ _ q; exact q
  have hVR : ∀ {st : List AV} {K K' : AV → Nat → Nat → Nat → List AV → Prop}, (∀ v k i j r, K v k i j r → K' v k i j r) → topVR st K → topVR st K' := by
    intro st K K' hk q; unfold topVR at *; split at q; exact hk _ _ _ _ _ q; exact q
  have hLI : ∀ {a : Nat} {K K' : Int32 → Prop}, (∀ x, K x → K' x) → locI lv a K → locI lv a K' := by
    intro a K K' hk q; unfold locI at *; split at q; exact hk _ q; exact q
  have hLR : ∀ {a : Nat} {K K' : Id3 → Prop}, (∀ x, K x → K' x) → locR lv a K → locR lv a K' := by
    intro a K K' hk q; unfold locR at *; split at q; exact hk _ q; exact q
  have hC : ∀ {c : Jvm.ClassFile.Cond} {x y : Int32} {a b a' b' : Prop}, (a → a') → (b → b') → cmpP c x y a b → cmpP c x y a' b' := by
    intro c x y a b a' b' h1 h2 q; cases c <;> exact ⟨fun z => h1 (q.1 z), fun z => h2 (q.2 z)⟩
  have hget : ∀ {k i j a b : Nat} {K K' : AV → Prop}, (∀ x, K x → K' x) → getP M k i j a b K → getP M k i j a b K' := by
    intro k i j a b K K' hk q; unfold getP at *; split at q
    · split at q <;> exact chk_mono (hk _) q
    · split at q
      · exact chk_mono (fun z => ⟨z.1, hk _ z.2⟩) q
      · exact chk_mono (hk _) q
    · exact chk_mono (hk _) q
  have hput : ∀ {v : AV} {k i j a b : Nat} {K K' : Mem → Prop}, (∀ x, K x → K' x) → putP M v k i j a b K → putP M v k i j a b K' := by
    intro v k i j a b K K' hk q; unfold putP at *; split at q
    · exact chk_mono (hk _) q
    · exact chk_mono (fun z => ⟨z.1, hk _ z.2⟩) q
    · exact chk_mono (hk _) q
    · exact q
  have hcall : ∀ {mid n : Nat} {K K' : List AV → Mem → Prop}, (∀ x M, K x M → K' x M) → callP Γ mid n st M K → callP Γ' mid n st M K' := by
    intro mid n K K' hk q; unfold callP at *; split at q
    · rename_i hc; rw [if_pos hc]; exact hG _ _ _ _ _ (fun r M' z => hk _ _ z) q
    · exact q.elim
  have hcopy : ∀ {K K' : List AV → Mem → Prop}, (∀ x M, K x M → K' x M) → copyP st M K → copyP st M K' := by
    intro K K' hk q; unfold copyP topCp at *; split at q
    · exact chk_mono (fun z => ⟨z.1, hk _ _ z.2⟩) q
    · exact q
  have hstat : ∀ {mid n : Nat} {K K' : List AV → Mem → Prop}, (∀ x M, K x M → K' x M) → statP Γ mid n st M K → statP Γ' mid n st M K' := by
    intro mid n K K' hk q; unfold statP at *; split at q
    · exact hcopy hk q
    · exact hI (fun _ _ => chk_mono (hk _ _)) q
    · exact hII (fun _ _ _ => chk_mono (hk _ _)) q
    · exact hII (fun _ _ _ => chk_mono (hk _ _)) q
    · exact hcall hk q
  have hvirt : ∀ {mid n : Nat} {tb : List (Int32 × Nat)} {K K' : List AV → Mem → Prop}, (∀ x M, K x M → K' x M) → virtP Γ mid n tb st M K → virtP Γ' mid n tb st M K' := by
    intro mid n tb K K' hk q; unfold virtP at *; split at q
    · exact chk_mono (hcall hk) q
    · exact q
  have hial : ∀ {x : Int32} {k i j : Nat} {K K' : Int32 → Prop}, (∀ x, K x → K' x) → ialdP M x k i j K → ialdP M x k i j K' := by
    intro x k i j K K' hk q; unfold ialdP at *; split at q
    · exact ⟨q.1, hk _ q.2⟩
    · exact chk_mono (fun z => ⟨z.1, hk _ z.2⟩) q
  have hbal : ∀ {x : Int32} {k i j : Nat} {K K' : Int32 → Prop}, (∀ x, K x → K' x) → baldP M x k i j K → baldP M x k i j K' := by
    intro x k i j K K' hk q; unfold baldP at *; split at q
    · exact ⟨q.1, hk _ q.2⟩
    · exact chk_mono (fun z => ⟨z.1, hk _ z.2⟩) q
  have hale : ∀ {k i : Nat} {K K' : Int32 → Prop}, (∀ x, K x → K' x) → alenP M k i K → alenP M k i K' := by
    intro k i K K' hk q; unfold alenP at *; split at q
    · exact hk _ q
    · exact hk _ q
    · exact chk_mono (hk _) q
  have hret : ∀ {v : Int32} {K K' : Prop}, (K → K') → retP ret v K → retP ret v K' := by
    intro v K K' hk q; unfold retP at *; split at q
    · exact hk q
    · exact ⟨q.1, hk q.2⟩
    · exact q
  have hrI : ∀ {K K' : Int32 → Prop}, (∀ x, K x → K' x) → retI st K → retI st K' := by
    intro K K' hk q; unfold retI at *; split at q; exact hk _ q; exact q
  have hrA : ∀ {K K' : Nat → Nat → Nat → Prop}, (∀ x y z, K x y z → K' x y z) → retA st K → retA st K' := by
    intro K K' hk q; unfold retA at *; split at q; exact hk _ _ _ q; exact q
  have hrV : ∀ {K K' : Prop}, (K → K') → retV st K → retV st K' := by
    intro K K' hk q; unfold retV at *; split at q; exact hk q; exact q
  obtain ⟨⟨ins, n⟩, a, b, x, tb⟩ := e
  cases ins
  all_goals first
    | exact h.elim
    | exact hS _ _ _ _ h
    | exact hLI (fun _ => hS _ _ _ _) h
    | exact hLR (fun _ => hS _ _ _ _) h
    | exact hI (fun _ _ => hS _ _ _ _) h
    | exact hII (fun _ _ _ => hS _ _ _ _) h
    | exact hII (fun _ _ _ q => ⟨q.1, hS _ _ _ _ q.2⟩) h
    | exact hR (fun _ _ _ _ => hS _ _ _ _) h
    | exact hV (fun _ _ => hS _ _ _ _) h
    | exact hVV (fun _ _ _ => hS _ _ _ _) h
    | exact hI (fun _ _ q => hC (hS _ _ _ _) (hS _ _ _ _) q) h
    | exact hII (fun _ _ _ q => hC (hS _ _ _ _) (hS _ _ _ _) q) h
    | exact hI (fun _ _ q => swP_mono (fun _ => hS _ _ _ _) q) h
    | exact hR (fun _ _ _ _ q => hget (fun _ => hS _ _ _ _) q) h
    | exact hVR (fun _ _ _ _ _ q => hput (fun _ => hS _ _ _ _) q) h
    | exact hIR (fun _ _ _ _ _ q => hial (fun _ => hS _ _ _ _) q) h
    | exact hIR (fun _ _ _ _ _ q => hbal (fun _ => hS _ _ _ _) q) h
    | exact hIR (fun _ _ _ _ _ q => chk_mono (fun z => ⟨z.1, hS _ _ _ _ z.2⟩) q) h
    | exact hIIR (fun _ _ _ _ _ _ q => chk_mono (fun z => ⟨z.1, hS _ _ _ _ z.2⟩) q) h
    | exact hIIR (fun _ _ _ _ _ _ q => chk_mono (fun z => ⟨z.1, z.2.1, hS _ _ _ _ z.2.2⟩) q) h
    | exact hR (fun _ _ _ _ q => hale (fun _ => hS _ _ _ _) q) h
    | exact hvirt (fun _ _ => hS _ _ _ _) h
    | exact hLR (fun _ => chk_mono (hS _ _ _ _)) h
    | exact hR (fun _ _ _ _ => chk_mono (hS _ _ _ _)) h
    | exact hI (fun _ _ => chk_mono (hS _ _ _ _)) h
    | exact hrI (fun _ q => hret (hQ _ _) q) h
    | exact hrA (fun _ _ _ q => chk_mono (hQ _ _) q) h
    | exact hrV (fun q => chk_mono (hQ _ _) q) h
    | (rcases a with _ | a <;> exact hS _ _ _ _ h)
    | exact hstat (fun _ _ => hS _ _ _ _) h
theorem stp_mono {Γ Γ' : GA} {ret : Option FieldType} {C : Tab} {pc : Nat} {lv : LV} {st : List AV} {M : Mem} {S S' : CF} {Q Q' : PQ}
    (hG : ∀ (mid : Nat) (av : List AV) (M : Mem) (Z Z' : PQ), (∀ r M, Z r M → Z' r M) → Γ mid av M Z → Γ' mid av M Z')
    (hS : ∀ pc lv st M, S pc lv st M → S' pc lv st M) (hQ : ∀ r M, Q r M → Q' r M) (h : stp Γ ret C pc lv st M S Q) : stp Γ' ret C pc lv st M S' Q' := by
  unfold stp at *
  split at h
  · exact step_mono hG hS hQ h
  · exact h
theorem Tot_mono {Γ Γ' : GA} {ret : Option FieldType} {C : Tab} {pc : Nat} {lv : LV} {st : List AV} {M : Mem} {Q Q' : PQ}
    (hG : ∀ (mid : Nat) (av : List AV) (M : Mem) (Z Z' : PQ), (∀ r M, Z r M → Z' r M) → Γ mid av M Z → Γ' mid av M Z')
    (hQ : ∀ r M, Q r M → Q' r M) (h : Tot Γ ret C pc lv st M Q) : Tot Γ' ret C pc lv st M Q' :=
  fun S hS => h S fun pc lv st M q => hS pc lv st M (stp_mono hG (fun _ _ _ _ z => z) hQ q)
theorem Td_mono (P : Nat → MRec) : ∀ (d d' : Nat), d ≤ d' → ∀ (mid : Nat) (av : List AV) (M : Mem) (Q Q' : PQ), (∀ r M, Q r M → Q' r M) → Td P d mid av M Q → Td P d' mid av M Q' := by
  intro d
  induction d with
  | zero => intro d' _ mid av M Q Q' _ h; exact h.elim
  | succ d ih =>
    intro d' hd mid av M Q Q' hQ h
    obtain ⟨e, rfl⟩ : ∃ e, d' = e + 1 := ⟨d' - 1, by omega⟩
    exact Tot_mono (ih e (by omega)) hQ h

