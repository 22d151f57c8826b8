-- 15.ctor2: the constructors' machine is the machine
def encW (base : Nat) : W2 → Value
  | .inl x => .int x
  | .inr none => .null
  | .inr (some q) => .ref (base + q)
def w2i : W2 → Int32
  | .inl x => x
  | .inr _ => 0
def w2r : W2 → Option Nat
  | .inl _ => none
  | .inr r => r
def encC (base : Nat) (cy : Nat → ClassId) (c : C2) : va_E :=
  if c.1 < 11 then .inr (c.1, c.2.map (encW base))
  else if c.1 < 103 then .inl (cy (c.1 - 100), c.2.length, .inl fun j => w2i (c.2.getD j (.inl 0)))
  else .inl (cy (c.1 - 100), c.2.length, .inr (.inr (.inr (.inr fun j => (w2r (c.2.getD j (.inr none))).map (base + ·)))))
def ws2 (base : Nat) (cy : Nat → ClassId) (h : List C2) : va_W := h.mapIdx fun i c => (base + i, encC base cy c)
theorem ws2_at {base : Nat} {cy : Nat → ClassId} {h : List C2} {q : Nat} {c : C2} (e : h[q]? = some c) : (ws2 base cy h)[q]? = some (base + q, encC base cy c) := by
  unfold ws2
  rw [List.getElem?_mapIdx, e]
  rfl
theorem ws2_D {base : Nat} {cy : Nat → ClassId} {h : List C2} {A : Nat → Prop} (hA : ∀ q, base ≤ q → A q) : va_D A (ws2 base cy h) := by
  refine ⟨fun i j x y hi hj hxy => ?_, fun k q hk => ?_⟩
  · unfold ws2 at hi hj
    rw [List.getElem?_mapIdx] at hi hj
    cases h1 : h[i]? with
    | none => rw [h1] at hi; cases hi
    | some a =>
      cases h2 : h[j]? with
      | none => rw [h2] at hj; cases hj
      | some b =>
        rw [h1] at hi; rw [h2] at hj; cases hi; cases hj
        have : base + i = base + j := hxy
        omega
  · unfold ws2 at hk
    rw [List.getElem?_mapIdx] at hk
    cases h1 : h[k]? with
    | none => rw [h1] at hk; cases hk
    | some a => rw [h1] at hk; cases hk; exact hA _ (Nat.le_add_right _ _)
theorem ws2_set {base : Nat} {cy : Nat → ClassId} {h : List C2} {q : Nat} {c : C2} : (ws2 base cy h).set q (base + q, encC base cy c) = ws2 base cy (h.set q c) := by
  apply List.ext_getElem?
  intro k
  unfold ws2
  by_cases hk : k = q
  · subst hk
    by_cases hl : k < h.length
    · rw [List.getElem?_set_self (by simpa using hl), List.getElem?_mapIdx, List.getElem?_set_self hl]
      rfl
    · rw [List.getElem?_eq_none (by simp; omega), List.getElem?_eq_none (by simp; omega)]
  · rw [List.getElem?_set_ne (Ne.symm hk), List.getElem?_mapIdx, List.getElem?_mapIdx, List.getElem?_set_ne (Ne.symm hk)]
theorem ws2_app {base : Nat} {cy : Nat → ClassId} {h : List C2} {c : C2} : ws2 base cy (h ++ [c]) = ws2 base cy h ++ [(base + h.length, encC base cy c)] := by
  unfold ws2
  rw [List.mapIdx_append]
  simp
def lvG (base : Nat) (ls : Array Slot) (lv : List (Option W2)) : Prop := ls.size = lv.length ∧ lv_wf ls ∧ ∀ (i : Nat) (v : W2), lv[i]? = some (some v) → ls[i]? = some (.val (encW base v))
def ascG (base : Nat) (lv : List (Option W2)) : List (Nat × Value) := (List.range lv.length).filterMap fun i => match lv[i]? with
  | some (some v) => some (i, encW base v)
  | _ => none
theorem ascG_mem {base : Nat} {lv : List (Option W2)} {q : Nat × Value} : q ∈ ascG base lv ↔ ∃ v, lv[q.1]? = some (some v) ∧ q.2 = encW base v := by
  unfold ascG
  rw [List.mem_filterMap]
  constructor
  · rintro ⟨i, -, h⟩
    split at h
    · rename_i v e
      cases h
      exact ⟨v, e, rfl⟩
    · cases h
  · rintro ⟨v, h1, h2⟩
    refine ⟨q.1, ?_, ?_⟩
    · have := (List.getElem?_eq_some_iff.mp h1).1
      exact List.mem_range.mpr this
    · rw [h1]
      exact congrArg some (Prod.ext rfl h2.symm)
theorem lvG.has {base : Nat} {ls : Array Slot} {lv : List (Option W2)} (h : lvG base ls lv) : lv_has ls lv.length (ascG base lv) := by
  refine ⟨h.1, h.2.1, fun q hq => ?_⟩
  obtain ⟨v, h1, h2⟩ := ascG_mem.mp hq
  rw [h2]
  exact h.2.2 _ _ h1
theorem encW_cat (base : Nat) (v : W2) : (encW base v).category = 1 := by
  rcases v with x | _ | q <;> rfl
theorem lvG.upd {base : Nat} {ls : Array Slot} {lv : List (Option W2)} {i : Nat} {v : W2} {L : List (Nat × Value)} (hL : ∀ q ∈ ascG base lv, q ∈ L) (h : lv_has ls lv.length ((i, encW base v) :: L.filter (fun q => !(q.1 == i) && !(q.1 + 1 == i && q.2.category == 2)))) : lvG base ls (lv.set i (some v)) := by
  refine ⟨by rw [List.length_set]; exact h.1, h.2.1, fun j u hj => ?_⟩
  by_cases hji : j = i
  · subst hji
    have hl : j < (lv.set j (some v)).length := (List.getElem?_eq_some_iff.mp hj).1
    rw [List.length_set] at hl
    rw [List.getElem?_set_self hl] at hj
    cases hj
    exact h.2.2 (j, encW base v) List.mem_cons_self
  · rw [List.getElem?_set_ne (Ne.symm hji)] at hj
    refine h.2.2 (j, encW base u) (List.mem_cons_of_mem _ (List.mem_filter.mpr ⟨hL _ (ascG_mem.mpr ⟨u, hj, rfl⟩), ?_⟩))
    have h1 : (encW base u).category = 1 := encW_cat base u
    simp [hji, h1]
theorem catG_sum (base : Nat) (r : List W2) : ((r.map (encW base)).map fun v => v.category).sum = r.length := by
  induction r with
  | nil => rfl
  | cons v r ih =>
    rw [List.map_cons, List.map_cons, List.sum_cons, ih, encW_cat base v, List.length_cons]
    omega
def wsC (k : Nat) : List Cond := Cond.code (CR k).2.2.1 (CR k).2.2.2.1 (CR k).2.2.2.2.1 none :: ALLW
theorem wsC_in {k : Nat} (h : k < 11) : ∀ w ∈ wsC k, w ∈ ALLW := List.forall_mem_cons.mpr ⟨cc_ok h, fun _ h => h⟩
def rm2 (d k : Nat) : Room := { frames := d, cells := (bud k).1, slots := (bud k).2, locals := 40 * d }
def AUX (U : State) : Prop := (∀ q ∈ CTN, va_Nw (mkC q) U) ∧ ∀ t, 3 ≤ t → t ≤ 7 → va_AO (RO (elc t)) U
def Pc2 (D : va_G) (base : Nat) (cy : Nat → ClassId) (av : List W2) (h : List C2) : Array Value → State → Prop := va_Pc (av.map (encW base)) (fun U => U.heap.size = base + h.length ∧ va_P D clAll (ws2 base cy h) U.heap ∧ va_K D clAll (tysA cy) U ∧ AUX U)
def Qc2 (D : va_G) (base : Nat) (cy : Nat → ClassId) (h' : List C2) : Array Value → State → Outcome → State → Prop := fun _ st oc t => (oc = .returned none ∧ va_P D clAll (ws2 base cy h') t.heap) ∧ va_F (fun q => base ≤ q) st t
def HC2 (l : Launch) (D : va_G) (base : Nat) (cy : Nat → ClassId) (d : Nat) (call : Nat → List W2 → List C2 → Option (List C2)) : Prop :=
  ∀ (k : Nat) (av : List W2) (h h' : List C2), call k av h = some h' → k < 11 → av.length = npC k + 1 → Met l (CR k).2.2.1 (wsC k) (rm2 d k) (Pc2 D base cy av h) (Qc2 D base cy h') (bud k).1 (bud k).2 (fun q => base ≤ q)
theorem ctn_cases {q : Nat × Nat × Nat × Nat × Nat} (hq : q ∈ CTN) : ∃ a i x h, mkC q = .methodLinkNest a i x h := by
  simp only [CTN, List.mem_cons, List.not_mem_nil, or_false] at hq
  rcases hq with rfl | rfl | rfl <;> exact ⟨_, _, _, _, rfl⟩
theorem pc2_blind {D : va_G} {base : Nat} {cy : Nat → ClassId} {av : List W2} {h : List C2} : FrameBlind (Pc2 D base cy av h) := by
  intro a U g mk q
  obtain ⟨q0, q1, qP, qK, qN⟩ := q
  refine ⟨q0, q1, qP, va_K.moved (u := U) (U := U.calling g mk a) (Vm.Alike.refl U.vm) qK, fun q hq => ?_, fun t h3 h7 => ?_⟩
  · obtain ⟨_, _, _, _, e⟩ := ctn_cases hq
    have := qN.1 q hq
    rw [e] at this ⊢
    exact va_Nw.same (u := U) rfl rfl this
  · exact va_AO.moved (u := U) (Vm.Alike.refl U.vm) (qN.2 t h3 h7)
theorem aux_warm {s U : State} (h : AUX s) (hW : s.WarmedH U.vm) : AUX U := by
  refine ⟨fun q hq => ?_, fun t h3 h7 => va_AO.moved hW.alike (h.2 t h3 h7)⟩
  obtain ⟨_, _, _, _, e⟩ := ctn_cases hq
  have := h.1 q hq
  rw [e] at this ⊢
  exact va_Nw.warmM hW this
def Cy (p : Program) (s : State) (m : MethodId) (args : Array Value) (meth : Method) (c : Code) (D : va_G) (base : Nat) (cy : Nat → ClassId) (A : Nat → Prop) (o : Nat) (b : ByteArray) (nL : Nat) : Prop :=
  (p.tables.exec = Jvm.exec ∧ c.code = b ∧ c.maxLocals = nL) ∧ s.vm.findClass (RO o) = some m.cls ∧ (∀ w ∈ ALLW, w.before args s = true) ∧ va_K D clAll (tysA cy) s ∧ (∀ q, base ≤ q → A q) ∧ AUX s
theorem W.size {p : Program} {l : Launch} {e : Env} {R : Room} {s : State} {m : MethodId} {args : Array Value} {below : List Frame} {meth : Method} {c : Code} {H : Heap} {locs : List Loc} {cells slots : Nat} {Q : State → Prop} {g : JFrame} (kk : H.size ≤ s.heap.size + cells → W p l e R s m args below meth c H locs cells slots Q g) : W p l e R s m args below meth c H locs cells slots Q g :=
  fun T hT X => kk (by rw [← hT]; exact X.heapSize) T hT X
section CT2
variable {p : Program} {l : Launch} {e : Env} {R : Room} {s : State} {m : MethodId} {args : Array Value} {below : List Frame} {meth : Method} {c : Code} {D : va_G} {base : Nat} {cy : Nat → ClassId} {A : Nat → Prop} {o : Nat} {b : ByteArray} {nL : Nat} {cu su : Nat} {Z : State → Prop} {d : Nat}
variable {pc idx : Nat} {ls : Array Slot} {H : Heap} {locs : List Loc} {st : List W2} {h : List C2} {rest : List Value}
theorem cy_find (hK : va_K D clAll (tysA cy) s) {t : Nat} (ht : t ≤ 7) : s.vm.findClass ("[" ++ (ety t).toString) = some (cy t) := by
  have h1 := (hK.2 t _ (tysA_at cy ht)).2
  unfold va_RA at h1
  rcases (show t = 0 ∨ t = 1 ∨ t = 2 ∨ t = 3 ∨ t = 4 ∨ t = 5 ∨ t = 6 ∨ t = 7 by omega) with rfl | rfl | rfl | rfl | rfl | rfl | rfl | rfl
  · exact h1
  · exact h1
  · exact h1
  · obtain ⟨_, _, _, _, _, h5⟩ := h1; exact h5
  · obtain ⟨_, _, _, _, _, h5⟩ := h1; exact h5
  · obtain ⟨_, _, _, _, _, h5⟩ := h1; exact h5
  · obtain ⟨_, _, _, _, _, h5⟩ := h1; exact h5
  · obtain ⟨_, _, _, _, _, h5⟩ := h1; exact h5
theorem size_of {hs : Nat} (hP : va_P D clAll (ws2 base cy h) H) (h1 : 0 < h.length) (h2 : H.size ≤ s.heap.size + cu) (h3 : s.heap.size = base + hs) (h4 : cu + hs = h.length) : H.size = base + h.length := by
  have hl : h.length - 1 < h.length := by omega
  have h5 := (hP _ _ (ws2_at (base := base) (cy := cy) (List.getElem?_eq_getElem hl))).lt
  have h6 : base + (h.length - 1) < H.size := h5
  omega
theorem push_ok {x : Nat × va_E} {H1 : Heap} (hP : va_P D clAll (ws2 base cy h) H) (hz : H.size = base + h.length) (o1 : ∀ q, q < H.size → H1[q]? = H[q]?) (hx : va_at D clAll x H1) : va_P D clAll (ws2 base cy h ++ [x]) H1 := by
  refine (hP.kept fun k q hq => o1 q.1 (hP k q hq).lt).app fun k q hk => ?_
  have hz : k < 1 := (List.getElem?_eq_some_iff.mp hk).1
  rw [show k = 0 by omega] at hk
  cases hk
  exact hx
theorem push_S {H1 : Heap} (hS : va_S A s.heap H locs) (z1 : H1.size = H.size + 1) (o1 : ∀ q, q < H.size → H1[q]? = H[q]?) : va_S A s.heap H1 locs :=
  ⟨Nat.le_trans hS.1 (by omega), fun x g1 g2 => (o1 x (Nat.lt_of_lt_of_le g1 hS.1)).trans (hS.2.1 x g1 g2), hS.2.2⟩
theorem ct_new (C : Cy p s m args meth c D base cy A o b nL) (hd : decode b pc = .ok (.new idx, 3)) {a : Nat} (hl : CLN.any (fun q => q.1 == o && q.2.1 == idx && q.2.2.1 == a) = true) (hcs : cu + 1 ≤ R.cells ∧ su + NF a ≤ R.slots) (hz : H.size = base + h.length) (hP : va_P D clAll (ws2 base cy h) H) (hS : va_S A s.heap H locs)
    (kk : ∀ (H1 : Heap), va_P D clAll (ws2 base cy (h ++ [(a, (List.range (NF a)).map (dfl a))])) H1 → va_S A s.heap H1 locs → W p l e R s m args below meth c H1 locs (cu + 1) (su + NF a) Z (F0 m (pc + 3) ls (.ref (base + h.length) :: rest))) :
    W p l e R s m args below meth c H locs cu su Z (F0 m pc ls rest) := by
  obtain ⟨⟨hx, hb, hml⟩, hown, hts, hK, hA, hN⟩ := C
  obtain ⟨q, hm, hq'⟩ := any_at hl
  obtain ⟨q1, q2, q3, q4⟩ := q
  simp only [Bool.and_eq_true, beq_iff_eq] at hq'
  obtain ⟨⟨rfl, rfl⟩, rfl⟩ := hq'
  obtain ⟨hw, h11⟩ := cln_ok _ hm
  have h11 : q3 < 11 := h11
  have hmc := mc_ok q3 h11
  unfold MC at hmc
  generalize CP.getD q3 (0, 0, 0, 0) = zz at hmc
  obtain ⟨z1, z2, z3, z4⟩ := zz
  simp only [Bool.and_eq_true, decide_eq_true_eq] at hmc
  obtain ⟨⟨⟨⟨⟨⟨⟨⟨⟨⟨⟨⟨⟨⟨g1, g2⟩, g3⟩, g4⟩, g5⟩, g6⟩, g7⟩, g8⟩, g9⟩, g10⟩, g11⟩, g12⟩, g13⟩, g14⟩, g15⟩ := hmc
  have hKn := hK.1 q3 _ (cl_at h11)
  refine W.newcK hx hb hown (hts _ (aw2 hw)) (hts _ (aw2 ⟨g5, g6⟩)) (hts _ (aw2 ⟨g3, g4⟩)) rfl hd hcs.1 hcs.2 hKn.2.1 hz fun H1 kC hkC e1 z1 o1 => ?_
  rw [← hz] at o1
  refine kk H1 ?_ (push_S hS (by rw [z1, hz]) o1)
  rw [ws2_app]
  refine push_ok hP hz o1 ?_
  unfold encC
  rw [if_pos h11]
  refine ⟨_, cl_at h11, (u_born (tyF q3) hts (uw_at h11) hKn hkC e1 (ty_at h11)).to fun j hj => ?_⟩
  show defaultValue (tyF q3 j) = (((List.range (NF q3)).map (dfl q3)).map (encW base)).getD j .null
  rw [List.getD_eq_getElem?_getD, List.getElem?_map, List.getElem?_map, List.getElem?_range hj]
  show defaultValue (tyF q3 j) = encW base (dfl q3 j)
  unfold dfl
  have : ∀ t : FieldType, (t = .int ∨ t = .boolean ∨ (∃ n, t = .object n) ∨ ∃ n, t = .array n) → defaultValue t = encW base (match t with | .int => .inl 0 | .boolean => .inl 0 | _ => .inr none) := by
    rintro t (rfl | rfl | ⟨n, rfl⟩ | ⟨n, rfl⟩) <;> rfl
  refine this _ ?_
  have hall : ∀ k, k < 11 → ∀ j, j < NF k → (match tyF k j with | .int => true | .boolean => true | .object _ => true | .array _ => true | _ => false) = true := by decide +kernel
  have := hall q3 h11 j hj
  split at this
  · rename_i e; exact Or.inl e
  · rename_i e; exact Or.inr (Or.inl e)
  · rename_i n e; exact Or.inr (Or.inr (Or.inl ⟨n, e⟩))
  · rename_i n e; exact Or.inr (Or.inr (Or.inr ⟨n, e⟩))
  · cases this
end CT2
