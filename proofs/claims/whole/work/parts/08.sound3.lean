-- 08.sound3: one step of the small machine is one step of the machine
def Pcm (D : va_G) (ad : Id3 → Nat) (cy : Nat → ClassId) (fm : Value) (av : List AV) (M : Mem) : Array Value → State → Prop := va_Pc (av.map (encA ad fm)) (fun U => va_P D clAll (wsM ad cy M) U.heap ∧ va_K D clAll (tysA cy) U ∧ KSt ad fm (WA ad) U U.heap)
def Qcm (D : va_G) (ad : Id3 → Nat) (cy : Nat → ClassId) (fm : Value) (Zq : PQ) (M : Mem) : Array Value → State → Outcome → State → Prop := fun _ st oc t => (∃ (r : Option AV) (M' : Mem), oc = .returned (r.map (encA ad fm)) ∧ Zq r M' ∧ (∀ v, r = some v → vAV False v) ∧ (∀ k, 83 ≤ k → M' k = M k) ∧ va_P D clAll (wsM ad cy M') t.heap) ∧ va_F (WA ad) st t
def HRt (p : Program) (l : Launch) (e : Env) (R : Room) (s : State) (m : MethodId) (args : Array Value) (below : List Frame) (meth : Method) (c : Code) (D : va_G) (ad : Id3 → Nat) (cy : Nat → ClassId) (fm : Value) (A : Nat → Prop) (V90 : Prop) (G0 : Mem) (b : ByteArray) (ret : Option FieldType) (cells slots : Nat) (Z : State → Prop) (Q : PQ) : Prop :=
  (∀ (v : Int32) (M : Mem) (pc : Nat) (ls : Array Slot) (H : Heap) (locs : List Loc), decode b pc = .ok (.ireturn, 1) → retP ret v (Q (some (.inl v)) M) → (∀ k, 83 ≤ k → M k = G0 k) → va_P D clAll (wsM ad cy M) H → va_S A s.heap H locs → W p l e R s m args below meth c H locs cells slots Z (F0 m pc ls [.int v])) ∧
  (∀ (k i j : Nat) (M : Mem) (pc : Nat) (ls : Array Slot) (H : Heap) (locs : List Loc), decode b pc = .ok (.areturn, 1) → (k = 80 ∧ isObj ret = true) → vAV V90 (.inr (k, i, j)) → Q (some (.inr (k, i, j))) M → (∀ k, 83 ≤ k → M k = G0 k) → va_P D clAll (wsM ad cy M) H → va_S A s.heap H locs → W p l e R s m args below meth c H locs cells slots Z (F0 m pc ls [encA ad fm (.inr (k, i, j))])) ∧
  (∀ (M : Mem) (pc : Nat) (ls : Array Slot) (H : Heap) (locs : List Loc), decode b pc = .ok (.return_, 1) → ret.isNone = true → Q none M → (∀ k, 83 ≤ k → M k = G0 k) → va_P D clAll (wsM ad cy M) H → va_S A s.heap H locs → W p l e R s m args below meth c H locs cells slots Z (F0 m pc ls []))
def HCl (l : Launch) (D : va_G) (ad : Id3 → Nat) (cy : Nat → ClassId) (fm : Value) (d : Nat) (Γ : GA) : Prop :=
  ∀ (mid : Nat) (av : List AV) (M : Mem) (Zq : PQ), Γ mid av M Zq → mid < 230 → (∀ v ∈ av, vAV False v) → av.length ≤ (PR mid).2.2.2.2.1 → Met l (PR mid).2.2.1 (wsOf mid) (rm d) (Pcm D ad cy fm av M) (Qcm D ad cy fm Zq M) 0 0 (WA ad)
theorem pcm_blind {D : va_G} {ad : Id3 → Nat} {cy : Nat → ClassId} {fm : Value} {av : List AV} {M : Mem} : FrameBlind (Pcm D ad cy fm av M) := by
  intro a U g mk q
  obtain ⟨q0, qP, qK, ks⟩ := q
  exact ⟨q0, qP, va_K.moved (u := U) (U := U.calling g mk a) (Vm.Alike.refl U.vm) qK, vk_S.moved (u := U) (U := U.calling g mk a) (Vm.Alike.refl U.vm) ks.1, fun i hi => vk_R.same (u := U) rfl (ks.2.1 i hi), va_Z.moved (u := U) (U := U.calling g mk a) (Vm.Alike.refl U.vm) ks.2.2.1, va_Z.moved (u := U) (U := U.calling g mk a) (Vm.Alike.refl U.vm) ks.2.2.2.1, fun q hq => va_Nw.same (u := U) (by first | rfl | (have := hq; simp only [NSTS, List.mem_singleton] at this; subst this; rfl)) rfl (ks.2.2.2.2 q hq)⟩
section SND3
variable {p : Program} {l : Launch} {e : Env} {R : Room} {s : State} {m : MethodId} {args : Array Value} {below : List Frame} {meth : Method} {c : Code} {D : va_G} {ad : Id3 → Nat} {cy : Nat → ClassId} {fm : Value} {A : Nat → Prop} {V90 : Prop} {G0 : Mem} {o : Nat} {b : ByteArray} {nL : Nat} {ret : Option FieldType} {cells slots : Nat} {Z : State → Prop} {d : Nat}
theorem kst_at {H : Heap} {locs : List Loc} (ks : KSt ad fm A s s.heap) (hA : ∀ c ∈ cids, A (ad c)) (hS : va_S A s.heap H locs) {U : State} (hU : U.heap = H) (hW : s.WarmedH U.vm) : KSt ad fm (WA ad) U U.heap := by
  have hAB : ∀ q, WA ad q → A q := fun q ⟨c, h1, h2⟩ => by rw [← h2]; exact hA c h1
  rw [hU]
  exact ⟨((ks.1.kept (H1 := H) (fun a h1 h2 => hS.2.1 a h1 h2)).moved hW.alike).narrow hAB, fun i hi => vk_R.warm hW (ks.2.1 i hi), ((ks.2.2.1.kept (H1 := H) (fun a h1 h2 => hS.2.1 a h1 h2)).moved hW.alike).narrow hAB, ((ks.2.2.2.1.kept (H1 := H) (fun a h1 h2 => hS.2.1 a h1 h2)).moved hW.alike).narrow hAB, fun q hq => by
    have h1 := ks.2.2.2.2 q hq
    have h2 := hq
    simp only [NSTS, List.mem_singleton] at h2
    subst h2
    exact va_Nw.warmM hW h1⟩
/-- behind a call of any kind -/
theorem call_back {H : Heap} {locs : List Loc} {pc : Nat} {ls : Array Slot} {st0 rest : List Value} {a : Array Value} {Zq : PQ} {M : Mem} (hr : va_Run p l e R s m args below meth c H locs cells slots 0 0 (F0 m pc ls st0) rest (Qcm D ad cy fm Zq M a) (WA ad)) (hS : va_S A s.heap H locs) (hA : ∀ c ∈ cids, A (ad c))
    (kk : ∀ (r : Option AV) (M' : Mem) (H1 : Heap) (locs1 : List Loc), Zq r M' → (∀ v, r = some v → vAV False v) → (∀ k, 83 ≤ k → M' k = M k) → va_P D clAll (wsM ad cy M') H1 → va_S A s.heap H1 locs1 → W p l e R s m args below meth c H1 locs1 cells slots Z (F0 m (pc + 3) ls ((r.map (encA ad fm)).toList ++ rest))) : W p l e R s m args below meth c H locs cells slots Z (F0 m pc ls st0) := by
  have hAB : ∀ q, WA ad q → A q := fun q ⟨c, h1, h2⟩ => by rw [← h2]; exact hA c h1
  intro T hT X
  obtain ⟨v, st₀, t, T', L, h0, X', hL, e1, e2, ⟨⟨r, M', hv, hz, hr1, hg, hP⟩, hf⟩, st⟩ := hr T hT X
  cases hv
  have hz' : H.size ≤ t.heap.size := by rw [← h0]; exact hf.1
  have hk : ∀ q : Nat, q < H.size → ¬ WA ad q → t.heap[q]? = H[q]? := fun q h1 h2 => by rw [← h0]; exact hf.2 q (by rw [h0]; exact h1) h2
  obtain ⟨t2, a1, b1⟩ := kk r M' T'.heap (locs ++ L) hz hr1 hg (by rw [e1]; exact hP) ⟨Nat.le_trans hS.1 (by rw [e1]; exact hz'), fun q h1 h2 => by rw [e1, hk q (Nat.lt_of_lt_of_le h1 hS.1) (fun z => h2 (hAB q z))]; exact hS.2.1 q h1 h2, fun q hq => by
      rcases List.mem_append.mp hq with h | h
      · exact hS.2.2 q h
      · exact hAB _ (hL q h)⟩ T' rfl X'
  exact ⟨t2, st t2 a1, b1⟩
theorem no90_ok {av : List AV} (h1 : ∀ v ∈ av, vAV V90 v) (h2 : av.all no90 = true) : ∀ v ∈ av, vAV False v := by
  intro v hv
  have h3 := List.all_eq_true.mp h2 v hv
  have h4 := h1 v hv
  rcases v with x | q
  · trivial
  · rcases h4 with h | h | h | h | h
    · exact Or.inl h
    · exact Or.inr (Or.inl h)
    · exact Or.inr (Or.inr (Or.inl h))
    · exact Or.inr (Or.inr (Or.inr (Or.inl h)))
    · rw [h.1] at h3; exact absurd h3 (by decide)
theorem vAV.weak {v : AV} (h : vAV False v) : vAV V90 v := by
  rcases v with x | q
  · trivial
  · rcases h with h | h | h | h | h
    · exact Or.inl h
    · exact Or.inr (Or.inl h)
    · exact Or.inr (Or.inr (Or.inl h))
    · exact Or.inr (Or.inr (Or.inr (Or.inl h)))
    · exact h.2.elim
theorem cat_sum (hf : fm = .null ∨ ∃ t, fm = .ref t) (r : List AV) : ((r.map (encA ad fm)).map fun v => v.category).sum = r.length := by
  induction r with
  | nil => rfl
  | cons v r ih =>
    rw [List.map_cons, List.map_cons, List.sum_cons, ih, enc_cat hf v, List.length_cons]
    omega
theorem toList_map {α β : Type} (r : Option α) (f : α → β) : (r.map f).toList = r.toList.map f := by cases r <;> rfl
theorem mw_facts {mid : Nat} (h : mid < 230) : Cond.initialized (RO (PR mid).1) ∈ ALLW ∧ kwM mid ∈ ALLW ∧ ((PR mid).2.1 = 0 → swM mid ∈ ALLW) ∧ (PR mid).2.2.1.cls = RO (PR mid).1 ∧ plainName (PR mid).2.2.1.cls = true ∧ (PR mid).2.2.1.cls ≠ "java/lang/invoke/MethodHandle" ∧ (PR mid).2.2.1.cls ≠ "java/lang/invoke/VarHandle" ∧ (parseMethodDescriptor (PR mid).2.2.1.desc).map (fun d => d.parameters.length) = some (npM mid) := by
  have q := mw_ok h
  unfold MW at q
  unfold npM
  generalize MP.getD mid (0, 0, 0, 0, 0) = z at q ⊢
  obtain ⟨_, b', c', d', n'⟩ := z
  simp only [Bool.and_eq_true, decide_eq_true_eq] at q
  obtain ⟨⟨⟨⟨⟨⟨⟨⟨⟨⟨q1, q2⟩, q3⟩, q4⟩, q5⟩, q6⟩, q7⟩, q8⟩, q9⟩, q10⟩, q11⟩ := q
  refine ⟨aw2 ⟨q1, q2⟩, aw2 ⟨q3, q4⟩, fun h0 => ?_, q6, q7, q8, q9, q10⟩
  rw [h0] at q5
  simp only [Bool.and_eq_true, decide_eq_true_eq] at q5
  exact aw2 q5
end SND3
