-- 19.start1: what the constructors leave is the layout of cells
def kids (c : Id3) (q : Nat) : List (Id3 × Nat) := match h3[q]? with
  | some (_, l) => if kcls c.1 < 11 then (List.range (NF (kcls c.1))).filterMap (fun s => match gfv (fun _ _ _ _ => 15) c.1 c.2.1 c.2.2 s, (l[s]? : Option W2) with
      | Sum.inr d, some (Sum.inr (some r)) => some (d, r)
      | _, _ => none)
    else if aty c.1 < 3 then [] else (List.range (alen c.1)).filterMap (fun n => match (l[n]? : Option W2) with
      | some (Sum.inr (some r)) => some (aref c.1 c.2.1 n, r)
      | _ => none)
  | none => []
def bfs : Nat → List (Id3 × Nat) → List (Id3 × Nat) → List (Id3 × Nat)
  | 0, _, acc => acc
  | _, [], acc => acc
  | n + 1, x :: r, acc => if acc.any (fun y => y.1 == x.1) then bfs n r acc else bfs n (r ++ kids x.1 x.2) (x :: acc)
def numL : List (Id3 × Nat) := bfs 1000 [((0, 0, 0), 0), ((30, 0, 0), 137)] []
def num (c : Id3) : Nat := match numL.find? (fun y => y.1 == c) with
  | some y => y.2
  | none => 999
def bak (n : Nat) : Id3 := match numL.find? (fun y => y.2 == n) with
  | some y => y.1
  | none => (0, 0, 0)
theorem numL_len : numL.length = 163 := by decide +kernel
theorem num_bak : ∀ c ∈ cids, bak (num c) = c := by decide +kernel
theorem num_inj {c c' : Id3} (h : c ∈ cids) (h' : c' ∈ cids) (e : num c = num c') : c = c' := by
  rw [← num_bak c h, ← num_bak c' h', e]
/-- the memory at the start; the script's cells apart -/
def Mz : Mem := fun k i j s => if k = 11 ∧ s = 6 then 15 else match h3[num (k, i, j)]? with
  | some (_, l) => w2i (l.getD s (.inl 0))
  | none => 0
def cv : AV → W2
  | .inl x => .inl x
  | .inr d => .inr (some (num d))
def chk0 (c : Id3) : Bool := match h3[num c]? with
  | some (t, l) => if kcls c.1 < 11 then t == kcls c.1 && decide (l = (List.range (NF (kcls c.1))).map fun s => cv (gfv Mz c.1 c.2.1 c.2.2 s)) && (List.range (NF (kcls c.1))).all (fun s => refOk (gfv Mz c.1 c.2.1 c.2.2 s))
    else if aty c.1 < 3 then t == 100 + aty c.1 && l.length == alen c.1 && l.all (fun v => match v with | .inl _ => true | .inr _ => false)
    else t == 100 + aty c.1 && decide (aty c.1 ≤ 7) && decide (l = (List.range (alen c.1)).map fun n => .inr (some (num (aref c.1 c.2.1 n))))
  | none => false
theorem chk0_ok : ∀ c ∈ cids, chk0 c = true := by decide +kernel
