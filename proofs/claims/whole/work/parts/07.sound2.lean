-- 07.sound2: contexts, locals, one step
theorem topI_inv {st : List AV} {K : Int32 → List AV → Prop} (h : topI st K) : ∃ x r, st = .inl x :: r ∧ K x r := by
  unfold topI at h; split at h
  · exact ⟨_, _, rfl, h⟩
  · exact h.elim
theorem topII_inv {st : List AV} {K : Int32 → Int32 → List AV → Prop} (h : topII st K) : ∃ x y r, st = .inl y :: .inl x :: r ∧ K x y r := by
  unfold topII at h; split at h
  · exact ⟨_, _, _, rfl, h⟩
  · exact h.elim
theorem topR_inv {st : List AV} {K : Nat → Nat → Nat → List AV → Prop} (h : topR st K) : ∃ k i j r, st = .inr (k, i, j) :: r ∧ K k i j r := by
  unfold topR at h; split at h
  · exact ⟨_, _, _, _, rfl, h⟩
  · exact h.elim
theorem topIR_inv {st : List AV} {K : Int32 → Nat → Nat → Nat → List AV → Prop} (h : topIR st K) : ∃ x k i j r, st = .inl x :: .inr (k, i, j) :: r ∧ K x k i j r := by
  unfold topIR at h; split at h
  · exact ⟨_, _, _, _, _, rfl, h⟩
  · exact h.elim
theorem topIIR_inv {st : List AV} {K : Int32 → Int32 → Nat → Nat → Nat → List AV → Prop} (h : topIIR st K) : ∃ z x k i j r, st = .inl z :: .inl x :: .inr (k, i, j) :: r ∧ K z x k i j r := by
  unfold topIIR at h; split at h
  · exact ⟨_, _, _, _, _, _, rfl, h⟩
  · exact h.elim
theorem topV_inv {st : List AV} {K : AV → List AV → Prop} (h : topV st K) : ∃ v r, st = v :: r ∧ K v r := by
  unfold topV at h; split at h
  · exact ⟨_, _, rfl, h⟩
  · exact h.elim
theorem topVV_inv {st : List AV} {K : AV → AV → List AV → Prop} (h : topVV st K) : ∃ v u r, st = v :: u :: r ∧ K v u r := by
  unfold topVV at h; split at h
  · exact ⟨_, _, _, rfl, h⟩
  · exact h.elim
theorem topVR_inv {st : List AV} {K : AV → Nat → Nat → Nat → List AV → Prop} (h : topVR st K) : ∃ v k i j r, st = v :: .inr (k, i, j) :: r ∧ K v k i j r := by
  unfold topVR at h; split at h
  · exact ⟨_, _, _, _, _, rfl, h⟩
  · exact h.elim
theorem topCp_inv {st : List AV} {K : Int32 → Int32 → Id3 → Int32 → Id3 → List AV → Prop} (h : topCp st K) : ∃ n dp c1 sp c0 r, st = .inl n :: .inl dp :: .inr c1 :: .inl sp :: .inr c0 :: r ∧ K n dp c1 sp c0 r := by
  unfold topCp at h; split at h
  · exact ⟨_, _, _, _, _, _, rfl, h⟩
  · exact h.elim
theorem locI_inv {lv : LV} {a : Nat} {K : Int32 → Prop} (h : locI lv a K) : ∃ x, lv[a]? = some (some (.inl x)) ∧ K x := by
  unfold locI at h; split at h
  · rename_i x e
    refine ⟨x, ?_, h⟩
    rw [List.getD_eq_getElem?_getD] at e
    cases q : lv[a]? with
    | none => rw [q] at e; cases e
    | some v => rw [q] at e; exact congrArg some e
  · exact h.elim
theorem locR_inv {lv : LV} {a : Nat} {K : Id3 → Prop} (h : locR lv a K) : ∃ x, lv[a]? = some (some (.inr x)) ∧ K x := by
  unfold locR at h; split at h
  · rename_i x e
    refine ⟨x, ?_, h⟩
    rw [List.getD_eq_getElem?_getD] at e
    cases q : lv[a]? with
    | none => rw [q] at e; cases e
    | some v => rw [q] at e; exact congrArg some e
  · exact h.elim
def lvH (ad : Id3 → Nat) (fm : Value) (ls : Array Slot) (lv : LV) : Prop := ls.size = lv.length ∧ lv_wf ls ∧ ∀ (i : Nat) (v : AV), lv[i]? = some (some v) → ls[i]? = some (.val (encA ad fm v))
def asc (ad : Id3 → Nat) (fm : Value) (lv : LV) : List (Nat × Value) := (List.range lv.length).filterMap fun i => match lv[i]? with
  | some (some v) => some (i, encA ad fm v)
  | _ => none
theorem asc_mem {ad : Id3 → Nat} {fm : Value} {lv : LV} {q : Nat × Value} : q ∈ asc ad fm lv ↔ ∃ v, lv[q.1]? = some (some v) ∧ q.2 = encA ad fm v := by
  unfold asc
  rw [List.mem_filterMap]
  constructor
  · rintro ⟨i, -, h⟩
    split at h
    · rename_i v e
      cases h
      exact ⟨v, e, rfl⟩
    · cases h
  · rintro ⟨v, h1, h2⟩
    refine ⟨q.1, ?_, ?_⟩
    · have := (List.getElem?_eq_some_iff.mp h1).1
      exact List.mem_range.mpr this
    · rw [h1]
      exact congrArg some (Prod.ext rfl h2.symm)
theorem lvH.has {ad : Id3 → Nat} {fm : Value} {ls : Array Slot} {lv : LV} (h : lvH ad fm ls lv) : lv_has ls lv.length (asc ad fm lv) := by
  refine ⟨h.1, h.2.1, fun q hq => ?_⟩
  obtain ⟨v, h1, h2⟩ := asc_mem.mp hq
  rw [h2]
  exact h.2.2 _ _ h1
theorem enc_cat {ad : Id3 → Nat} {fm : Value} (hf : fm = .null ∨ ∃ t, fm = .ref t) (v : AV) : (encA ad fm v).category = 1 := by
  rcases v with x | c
  · rfl
  · show (if c.1 = 82 then fm else .ref (ad c)).category = 1
    split
    · rcases hf with rfl | ⟨t, rfl⟩ <;> rfl
    · rfl
theorem lvH.upd {ad : Id3 → Nat} {fm : Value} {ls : Array Slot} {lv : LV} {i : Nat} {v : AV} {L : List (Nat × Value)} (hf : fm = .null ∨ ∃ t, fm = .ref t) (hL : ∀ q ∈ asc ad fm lv, q ∈ L) (h : lv_has ls lv.length ((i, encA ad fm v) :: L.filter (fun q => !(q.1 == i) && !(q.1 + 1 == i && q.2.category == 2)))) : lvH ad fm ls (lv.set i (some v)) := by
  refine ⟨by rw [List.length_set]; exact h.1, h.2.1, fun j u hj => ?_⟩
  by_cases hji : j = i
  · subst hji
    have hl : j < (lv.set j (some v)).length := (List.getElem?_eq_some_iff.mp hj).1
    rw [List.length_set] at hl
    rw [List.getElem?_set_self hl] at hj
    cases hj
    exact h.2.2 (j, encA ad fm v) List.mem_cons_self
  · rw [List.getElem?_set_ne (Ne.symm hji)] at hj
    refine h.2.2 (j, encA ad fm u) (List.mem_cons_of_mem _ (List.mem_filter.mpr ⟨hL _ (asc_mem.mpr ⟨u, hj, rfl⟩), ?_⟩))
    have h1 : (encA ad fm u).category = 1 := enc_cat hf u
    simp [hji, h1]
def Cx (p : Program) (s : State) (m : MethodId) (args : Array Value) (meth : Method) (c : Code) (D : va_G) (ad : Id3 → Nat) (cy : Nat → ClassId) (fm : Value) (A : Nat → Prop) (V90 : Prop) (G0 : Mem) (o : Nat) (b : ByteArray) (nL : Nat) (ret : Option FieldType) : Prop :=
  (p.tables.exec = Jvm.exec ∧ c.code = b ∧ c.maxLocals = nL ∧ meth.sig.returnType = ret ∧ meth.locks = false) ∧ s.vm.findClass (RO o) = some m.cls ∧ (∀ w ∈ ALLW, w.before args s = true) ∧ va_K D clAll (tysA cy) s ∧ (∀ c ∈ cids, A (ad c)) ∧ (∀ c c', c ∈ cids → c' ∈ cids → ad c = ad c' → c = c') ∧ KSt ad fm A s s.heap ∧ (fm = .null ∨ ∃ t, fm = .ref t) ∧
  (V90 → va_X (ad (90, 0, 0)) (G0 91 0 0 0).toNatClampNeg (G0 90 0 0) s s.heap ∧ ad (90, 0, 0) < s.heap.size ∧ ¬ A (ad (90, 0, 0)) ∧ Int32.ofNat (G0 91 0 0 0).toNatClampNeg = G0 91 0 0 0)
section SND
variable {p : Program} {l : Launch} {e : Env} {R : Room} {s : State} {m : MethodId} {args : Array Value} {below : List Frame} {meth : Method} {c : Code} {D : va_G} {ad : Id3 → Nat} {cy : Nat → ClassId} {fm : Value} {A : Nat → Prop} {V90 : Prop} {G0 : Mem} {o : Nat} {b : ByteArray} {nL : Nat} {ret : Option FieldType} {cells slots : Nat} {Z : State → Prop}
def SW (p : Program) (l : Launch) (e : Env) (R : Room) (s : State) (m : MethodId) (args : Array Value) (below : List Frame) (meth : Method) (c : Code) (D : va_G) (ad : Id3 → Nat) (cy : Nat → ClassId) (fm : Value) (A : Nat → Prop) (V90 : Prop) (G0 : Mem) (nL cells slots : Nat) (Z : State → Prop) : CF := fun pc lv st M =>
  ∀ (ls : Array Slot) (H : Heap) (locs : List Loc), lv.length = nL → lvH ad fm ls lv → (∀ v, some v ∈ lv → vAV V90 v) → (∀ v ∈ st, vAV V90 v) → (∀ k, 83 ≤ k → M k = G0 k) → va_P D clAll (wsM ad cy M) H → va_S A s.heap H locs →
    W p l e R s m args below meth c H locs cells slots Z (F0 m pc ls (st.map (encA ad fm)))
theorem ws_get {M : Mem} {q : Id3} (h : q ∈ cids) : ∃ i : Nat, cids[i]? = some q ∧ (wsM ad cy M)[i]? = some (ad q, cellE ad cy M q) := by
  obtain ⟨i, hi⟩ := List.getElem?_of_mem h
  exact ⟨i, hi, by unfold wsM; rw [List.getElem?_map, hi]; rfl⟩
theorem ws_D (hA : ∀ c ∈ cids, A (ad c)) (hinj : ∀ c c', c ∈ cids → c' ∈ cids → ad c = ad c' → c = c') (M : Mem) : va_D A (wsM ad cy M) := by
  unfold wsM
  refine ⟨fun i j x y hi hj hxy => ?_, fun k q hk => ?_⟩
  · rw [List.getElem?_map] at hi hj
    cases h1 : cids[i]? with
    | none => rw [h1] at hi; cases hi
    | some a =>
      cases h2 : cids[j]? with
      | none => rw [h2] at hj; cases hj
      | some a' =>
        rw [h1] at hi; rw [h2] at hj; cases hi; cases hj
        have e := hinj a a' (List.mem_of_getElem? h1) (List.mem_of_getElem? h2) hxy
        subst e
        exact (List.getElem?_inj (List.getElem?_eq_some_iff.mp h1).1 cid_nd).mp (h1.trans h2.symm)
  · rw [List.getElem?_map] at hk
    cases h1 : cids[k]? with
    | none => rw [h1] at hk; cases hk
    | some a => rw [h1] at hk; cases hk; exact hA a (List.mem_of_getElem? h1)
theorem ws_set {M M' : Mem} {i : Nat} {q : Id3} (hi : cids[i]? = some q) (h : ∀ q' ∈ cids, q' ≠ q → cellE ad cy M' q' = cellE ad cy M q') : (wsM ad cy M).set i (ad q, cellE ad cy M' q) = wsM ad cy M' := by
  apply List.ext_getElem?
  intro k
  unfold wsM
  by_cases hk : k = i
  · subst hk
    have hl := (List.getElem?_eq_some_iff.mp hi).1
    rw [List.getElem?_set_self (by simpa using hl), List.getElem?_map, hi]
    rfl
  · rw [List.getElem?_set_ne (Ne.symm hk), List.getElem?_map, List.getElem?_map]
    cases h1 : cids[k]? with
    | none => rfl
    | some a =>
      have hne : a ≠ q := fun z => hk ((List.getElem?_inj (List.getElem?_eq_some_iff.mp h1).1 cid_nd).mp (h1.trans (by rw [z, hi])))
      show some (ad a, _) = some (ad a, _)
      rw [h a (List.mem_of_getElem? h1) hne]
theorem mr_same (M : Mem) (k i j : Nat) (f : Nat → Int32) : mr M k i j f k i j = f := by simp [mr]
theorem mr_ne {M : Mem} {k i j k' i' j' : Nat} {f : Nat → Int32} (h : ¬ (k' = k ∧ i' = i ∧ j' = j)) : mr M k i j f k' i' j' = M k' i' j' := by simp only [mr, if_neg h]
theorem mr_k {M : Mem} {k i j k' : Nat} {f : Nat → Int32} (h : k' ≠ k) : mr M k i j f k' = M k' := by
  funext i' j'
  exact mr_ne (fun z => h z.1)
theorem mr_hi {M : Mem} {q : Id3} (h : q ∈ cids) {f : Nat → Int32} (hg : ∀ k, 83 ≤ k → M k = G0 k) : ∀ k, 83 ≤ k → mr M q.1 q.2.1 q.2.2 f k = G0 k := fun k hk => by
  rw [mr_k (fun z => by have := cid_lt q h; omega)]
  exact hg k hk
/-- what gfv reads: the cell's own row, and the draft's slot -/
theorem gfv_cell {M M' : Mem} {k i j : Nat} (h : M' k i j = M k i j) (hc : (k, i, j) ∈ cids) (s : Nat) : gfv M' k i j s = gfv M k i j s := by
  by_cases hd : k = 11 ∧ s = 6
  · obtain ⟨rfl, rfl⟩ := hd
    have e := cid_one _ hc rfl
    cases e
    show (Sum.inr (9, (M' 11 0 0 6).toNatClampNeg, 0) : AV) = .inr (9, (M 11 0 0 6).toNatClampNeg, 0)
    rw [h]
  · cases hg : gfv M k i j s with
    | inr d => exact gfv_ref hg hd
    | inl x =>
      cases hg' : gfv M' k i j s with
      | inr d => rw [gfv_ref (M' := M) hg' hd] at hg; cases hg
      | inl y => rw [gfv_int hg, gfv_int hg', h]
theorem cell_eq {M M' : Mem} {q : Id3} (hq : q ∈ cids) (h : M' q.1 q.2.1 q.2.2 = M q.1 q.2.1 q.2.2) : cellE ad cy M' q = cellE ad cy M q := by
  unfold cellE
  have e : (fun s => encA ad .null (gfv M' q.1 q.2.1 q.2.2 s)) = fun s => encA ad .null (gfv M q.1 q.2.1 q.2.2 s) := by
    funext s
    rw [gfv_cell h hq s]
  rw [e, h]
theorem cell_ne {M : Mem} {q q' : Id3} {f : Nat → Int32} (h : q' ∈ cids) (hne : q' ≠ q) : cellE ad cy (mr M q.1 q.2.1 q.2.2 f) q' = cellE ad cy M q' :=
  cell_eq h (mr_ne (fun z => hne (Prod.ext z.1 (Prod.ext z.2.1 z.2.2))))
theorem gfv_ok {M : Mem} {q : Id3} (hq : q ∈ cids) (hk : kcls q.1 < 11) {s : Nat} (hs : s < NF (kcls q.1)) (hd : q.1 = 11 ∧ s = 6 → (M 11 0 0 6).toNatClampNeg < 16) : (∃ d ∈ cids, gfv M q.1 q.2.1 q.2.2 s = .inr d) ∨ gfv M q.1 q.2.1 q.2.2 s = .inl (M q.1 q.2.1 q.2.2 s) := by
  by_cases h6 : q.1 = 11 ∧ s = 6
  · refine Or.inl ⟨(9, (M 11 0 0 6).toNatClampNeg, 0), cid_draft _ (hd h6), ?_⟩
    rw [h6.1, h6.2]
    rfl
  · cases hg : gfv M q.1 q.2.1 q.2.2 s with
    | inl x => exact Or.inr (by rw [gfv_int hg])
    | inr d =>
      have h0 := cid_ref0 q hq hk s hs h6
      rw [gfv_ref hg h6] at h0
      exact Or.inl ⟨d, of_decide_eq_true h0, rfl⟩
theorem enc_ref {q : Id3} (h : q.1 ≠ 82) : encA ad fm (.inr q) = .ref (ad q) := if_neg h
theorem enc_cid {q : Id3} (h : q ∈ cids) : encA ad fm (.inr q) = .ref (ad q) := enc_ref (by have := cid_lt q h; omega)
theorem vAV.cid {q : Id3} (h : vAV V90 (.inr q)) (hk : q.1 < 80) : q ∈ cids := by
  rcases h with h | h | h | h | h
  · exact h
  · omega
  · omega
  · rw [h] at hk; exact absurd hk (by decide)
  · rw [h.1] at hk; exact absurd hk (by decide)
theorem kcls_lt {k : Nat} (h : kcls k < 11) : k < 80 := by
  unfold kcls at h
  split at h <;> first | omega | exact absurd h (by decide)
theorem aty_lt {k : Nat} (h : aty k ≤ 7) : k < 80 := by
  unfold aty at h
  split at h <;> first | omega | exact absurd h (by decide)
theorem kcls_aty {k : Nat} (h : kcls k < 11) : aty k = 99 := by
  unfold kcls at h
  split at h <;> first | rfl | exact absurd h (by decide)
theorem aty_kcls {k : Nat} (h : aty k ≤ 7) : kcls k = 99 := by
  unfold aty at h
  split at h <;> first | rfl | exact absurd h (by decide)
theorem dec_of {pc : Nat} {e : Ent} (h : okE o b pc e = true) : decode b pc = .ok e.1 := by
  obtain ⟨⟨ins, n⟩, a, bb, x, tb⟩ := e
  simp only [okE, Bool.and_eq_true, decide_eq_true_eq] at h
  exact h.1
theorem vcons {v : AV} {r : List AV} (h1 : vAV V90 v) (h2 : ∀ u ∈ r, vAV V90 u) : ∀ u ∈ v :: r, vAV V90 u := List.forall_mem_cons.mpr ⟨h1, h2⟩
theorem vtail {v : AV} {r : List AV} (h : ∀ u ∈ v :: r, vAV V90 u) : ∀ u ∈ r, vAV V90 u := (List.forall_mem_cons.mp h).2
theorem vhead {v : AV} {r : List AV} (h : ∀ u ∈ v :: r, vAV V90 u) : vAV V90 v := (List.forall_mem_cons.mp h).1
theorem vset {lv : LV} {i : Nat} {v : AV} (h : ∀ u, some u ∈ lv → vAV V90 u) (hv : vAV V90 v) : ∀ u, some u ∈ lv.set i (some v) → vAV V90 u := by
  intro u hu
  rcases List.mem_or_eq_of_mem_set hu with z | z
  · exact h u z
  · cases z; exact hv
theorem swP_inv {tb : List (Int32 × Nat)} {x : Int32} {d : Nat} {K : Nat → Prop} (h : swP tb x d K) : (∃ (j t : Nat), tb[j]? = some (x, t) ∧ K t) ∨ ((∀ (j : Nat) (v : Int32) (t : Nat), tb[j]? = some (v, t) → ¬ x = v) ∧ K d) := by
  induction tb with
  | nil => exact Or.inr ⟨fun j v t z => by simp at z, h⟩
  | cons q r ih =>
    obtain ⟨v, t⟩ := q
    by_cases e : x = v
    · exact Or.inl ⟨0, t, by rw [e]; rfl, h.1 e⟩
    · rcases ih (h.2 e) with ⟨j, t', h1, h2⟩ | ⟨h1, h2⟩
      · exact Or.inl ⟨j + 1, t', h1, h2⟩
      · refine Or.inr ⟨fun j v' t' z => ?_, h2⟩
        cases j with
        | zero => cases z; exact e
        | succ j => exact h1 j v' t' z
theorem okSw_at {pc : Nat} {lo : Int} {offs : Array Int} : ∀ (tb : List (Int32 × Nat)) (i : Nat), okSw pc lo offs (i : Int) tb = true → ∀ (j : Nat) (v : Int32) (t : Nat), tb[j]? = some (v, t) → v.toInt = lo + ((i + j : Nat) : Int) ∧ ∃ o, offs[i + j]? = some o ∧ (pc : Int) + o = (t : Int) := by
  intro tb
  induction tb with
  | nil => intro i _ j v t z; simp at z
  | cons q r ih =>
    intro i h j v t z
    obtain ⟨v0, t0⟩ := q
    simp only [okSw, Bool.and_eq_true, decide_eq_true_eq] at h
    cases j with
    | zero =>
      cases z
      refine ⟨h.1.1, ?_⟩
      have h2 := h.1.2
      rw [show ((i : Nat) : Int).toNat = i from rfl] at h2
      split at h2
      · rename_i o e
        exact ⟨o, e, of_decide_eq_true h2⟩
      · cases h2
    | succ j =>
      have h3 := ih (i + 1) (by have := h.2; rwa [show ((i + 1 : Nat) : Int) = (i : Int) + 1 by omega]) j v t z
      rwa [show i + 1 + j = i + (j + 1) by omega] at h3
theorem okLk_sw {pc : Nat} {x : Int32} {d : Int} {td : Nat} (hd : (pc : Int) + d = (td : Int)) {K : Nat → Prop} : ∀ (ps : List (Int × Int)) (tb : List (Int32 × Nat)), okLk pc ps tb = true → swP tb x td K → ∃ (off : Int) (t : Nat), Op.lookupswitch.offset ps d x.toInt = off ∧ (pc : Int) + off = (t : Int) ∧ K t := by
  intro ps
  induction ps with
  | nil =>
    intro tb h q
    cases tb with
    | nil => exact ⟨d, td, rfl, hd, q⟩
    | cons a r => simp [okLk] at h
  | cons a r ih =>
    intro tb h q
    cases tb with
    | nil => simp [okLk] at h
    | cons v u =>
      obtain ⟨a, o⟩ := a
      obtain ⟨v, t⟩ := v
      simp only [okLk, Bool.and_eq_true, decide_eq_true_eq] at h
      rw [Op.lookupswitch.offset_cons]
      by_cases e : x = v
      · refine ⟨o, t, ?_, h.1.2, q.1 e⟩
        rw [if_pos (by rw [e, h.1.1])]
      · obtain ⟨off, t', h1, h2, h3⟩ := ih u h.2 (q.2 e)
        refine ⟨off, t', ?_, h2, h3⟩
        rw [if_neg (fun z => e (Int32.toInt_inj.mp (by rw [h.1.1]; exact z.symm)))]
        exact h1
end SND
