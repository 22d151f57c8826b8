-- 13.sound8: every method of the tables, at any depth
section SND8
variable {p : Program} {l : Launch} {e : Env} {R : Room} {s : State} {m : MethodId} {args : Array Value} {below : List Frame} {meth : Method} {c : Code} {D : va_G} {ad : Id3 → Nat} {cy : Nat → ClassId} {fm : Value} {A : Nat → Prop} {V90 : Prop} {G0 : Mem} {cells slots : Nat} {Z : State → Prop} {d : Nat}
variable {Γ : GA} {Q : PQ}
theorem clo_sound {r : MRec} (hM : okM r = true) (C : Cx p s m args meth c D ad cy fm A V90 G0 r.1 r.2.2.2.1 r.2.2.2.2.1 r.2.2.2.2.2.1) (HC : HCl l D ad cy fm d Γ) (hRf : d + 1 ≤ R.frames) (hRl : 40 * (d + 1) ≤ R.locals) (hcs : cells ≤ R.cells ∧ slots ≤ R.slots)
    (HR : HRt p l e R s m args below meth c D ad cy fm A V90 G0 r.2.2.2.1 r.2.2.2.2.2.1 cells slots Z Q) : Clo Γ r.2.2.2.2.2.1 r.2.2.2.2.2.2 Q (SW p l e R s m args below meth c D ad cy fm A V90 G0 r.2.2.2.2.1 cells slots Z) := by
  intro pc lv st M h
  unfold stp at h
  split at h
  · rename_i en he
    exact step_sound C HC hRf hRl hcs HR (okM_at hM he) h
  · exact h.elim
theorem args_mem : ∀ (vs : List Value) (j : Nat), (∀ v ∈ vs, v.category = 1) → ∀ (i : Nat) (v : Value), vs[i]? = some v → (j + i, v) ∈ lv_args j vs := by
  intro vs
  induction vs with
  | nil => intro j _ i v h; simp at h
  | cons u r ih =>
    intro j hc i v h
    have hu := hc u List.mem_cons_self
    unfold lv_args
    rw [if_neg (by omega)]
    cases i with
    | zero => cases h; exact List.mem_cons_self
    | succ i =>
      have := ih (j + 1) (fun w hw => hc w (List.mem_cons_of_mem _ hw)) i v h
      rw [show j + 1 + i = j + (i + 1) by omega] at this
      exact List.mem_cons_of_mem _ this
theorem sl_len : ∀ (vs : List Value), (∀ v ∈ vs, v.category = 1) → (lg_sl vs).length = vs.length := by
  intro vs
  induction vs with
  | nil => intro _; rfl
  | cons u r ih =>
    intro hc
    have hu := hc u List.mem_cons_self
    have := ih (fun w hw => hc w (List.mem_cons_of_mem _ hw))
    unfold lg_sl at this ⊢
    rw [List.flatMap_cons, List.length_append, this, if_neg (by omega), List.length_cons]
    simp
    omega
theorem lv0_len {n : Nat} {av : List AV} (h : av.length ≤ n) : (lv0 n av).length = n := by
  unfold lv0
  rw [List.length_append, List.length_map, List.length_replicate]
  omega
theorem lv0_at {n i : Nat} {av : List AV} {v : AV} (h : (lv0 n av)[i]? = some (some v)) : av[i]? = some v := by
  unfold lv0 at h
  by_cases hi : i < av.length
  · rw [List.getElem?_append_left (by rw [List.length_map]; exact hi), List.getElem?_map] at h
    cases q : av[i]? with
    | none => rw [q] at h; cases h
    | some u => rw [q] at h; cases h; rfl
  · rw [List.getElem?_append_right (by rw [List.length_map]; omega)] at h
    have := List.mem_of_getElem? h
    have := List.eq_of_mem_replicate this
    cases this
theorem lvH_entry {n : Nat} {av : List AV} (hf : fm = .null ∨ ∃ t, fm = .ref t) (h : av.length ≤ n) : lvH ad fm ((lg_sl (av.map (encA ad fm)) ++ List.replicate (n - (lg_sl (av.map (encA ad fm))).length) Slot.unset).toArray) (lv0 n av) := by
  have hc : ∀ v ∈ av.map (encA ad fm), v.category = 1 := by
    intro v hv
    obtain ⟨u, -, rfl⟩ := List.mem_map.mp hv
    exact enc_cat hf u
  have hl := lv_entry (av.map (encA ad fm)) (n := n) (by rw [sl_len _ hc, List.length_map]; exact h)
  refine ⟨by rw [lv0_len h]; exact hl.1, hl.2.1, fun i v hv => ?_⟩
  have h1 := args_mem _ 0 hc i (encA ad fm v) (by rw [List.getElem?_map, lv0_at hv]; rfl)
  rw [Nat.zero_add] at h1
  exact hl.2.2 _ h1
theorem snd (hinj : ∀ c c', c ∈ cids → c' ∈ cids → ad c = ad c' → c = c') (hfm : fm = .null ∨ ∃ t, fm = .ref t) : ∀ d, HCl l D ad cy fm d (Td PR d) := by
  intro d
  induction d with
  | zero => intro mid av M Zq h; exact h.elim
  | succ d ih =>
    intro mid av M Zq h hmid hval hlen
    obtain ⟨w1, w2, w3, w4, w5, w6, w7, w8⟩ := mw_facts hmid
    refine Met.ofW (cc := (PR mid).2.2.2.1) (maxL := (PR mid).2.2.2.2.1) (ret := (PR mid).2.2.2.2.2.1) w5 rfl ?_
    intro p e s m args below meth c s₁ B hml hv
    obtain ⟨rfl, hP, hK, ks⟩ := hv
    have hts := atoms_spec (ws := wsOf mid) B.pre
    have hown : s.vm.findClass (PR mid).2.2.1.cls = some m.cls := findClass_of_methodNamed B.named
    rw [w4] at hown
    have C : Cx p s m (av.map (encA ad fm)).toArray meth c D ad cy fm (WA ad) False M (PR mid).1 (PR mid).2.2.2.1 (PR mid).2.2.2.2.1 (PR mid).2.2.2.2.2.1 :=
      ⟨⟨B.exec, B.bytes, hml, B.returns, B.notSynchronized⟩, hown, fun w hw => hts w (List.mem_cons_of_mem _ hw), hK, fun c hc => ⟨c, hc, rfl⟩, hinj, ks, hfm, fun z => z.elim⟩
    have hR : HRt p l e (headSpec (wsOf mid) (rm (d + 1))).room s m (av.map (encA ad fm)).toArray below meth c D ad cy fm (WA ad) False M (PR mid).2.2.2.1 (PR mid).2.2.2.2.2.1 0 0 (MQ below (Qcm D ad cy fm Zq M) (av.map (encA ad fm)).toArray s 0 0 (WA ad)) Zq := by
      refine ⟨fun v M' pc ls H locs hd hq hg hP hS => ?_, fun k i j M' pc ls H locs hd hk hvv hq hg hP hS => ?_, fun M' pc ls H locs hd hr hq hg hP hS => ?_⟩
      · have fin : ∀ hz : Zq (some (.inl v)) M', ∀ t : State, t.heap = H → s.WarmedH t.vm → Qcm D ad cy fm Zq M (av.map (encA ad fm)).toArray s (.returned (some (.int v))) t := fun hz t ht _ =>
          ⟨⟨some (.inl v), M', rfl, hz, fun u hu => by cases hu; trivial, hg, by rw [ht]; exact hP⟩, hS.F ht⟩
        unfold retP at hq
        split at hq
        · rename_i hre
          exact W.iret B.exec B.bytes (B.returns.trans hre) (fin hq) hS.2.2 hd B.notSynchronized
        · rename_i ty _ hre
          exact W.zret B.exec B.bytes (B.returns.trans hre) hq.1 (fin hq.2) hS.2.2 hd B.notSynchronized
        · exact hq.elim
      · obtain ⟨hk, ho⟩ := hk
        unfold isObj at ho
        split at ho
        · rename_i nm hre
          refine W.aret B.exec B.bytes (B.returns.trans hre) (Or.inl ⟨nm, rfl⟩) (Or.inr ⟨ad (k, i, j), enc_ref (by dsimp only; omega)⟩) (fun t ht _ => ⟨⟨some (.inr (k, i, j)), M', rfl, hq, fun u hu => by cases hu; exact hvv, hg, by rw [ht]; exact hP⟩, hS.F ht⟩) hS.2.2 hd B.notSynchronized
        · cases ho
      · have hre : (PR mid).2.2.2.2.2.1 = none := by
          cases q : (PR mid).2.2.2.2.2.1 with
          | none => rfl
          | some t => rw [q] at hr; cases hr
        exact W.vret B.exec B.bytes (B.returns.trans hre) (fun t ht _ => ⟨⟨none, M', rfl, hq, (fun u hu => by cases hu), hg, by rw [ht]; exact hP⟩, hS.F ht⟩) hS.2.2 hd B.notSynchronized
    have K := h _ (clo_sound (r := PR mid) (okM_ok hmid) C ih (Nat.le_refl _) (Nat.le_refl _) ⟨Nat.le_refl _, Nat.le_refl _⟩ hR)
    rw [lg_entry_eq]
    exact K _ s.heap [] (lv0_len hlen) (lvH_entry hfm hlen) (fun v hv => by
      obtain ⟨i, hi⟩ := List.getElem?_of_mem hv
      exact hval v (List.mem_of_getElem? (lv0_at hi))) (fun v hv => by cases hv) (fun _ _ => rfl) hP va_S.rf
end SND8
