-- 17.ctor4: the constructors' calls, and the constructors
theorem oi_ok : Cond.instanceMethod Lib.objectInit ∈ ALLW ∧ Cond.code Lib.objectInit ⟨#[0xb1]⟩ 1 none ∈ ALLW := ⟨List.mem_filter.mpr (by decide +kernel), List.mem_filter.mpr (by decide +kernel)⟩
theorem mcf {k : Nat} (hk : k < 11) : Cond.instanceMethod (CR k).2.2.1 ∈ ALLW ∧ Cond.initialized (CR k).2.2.1.cls ∈ ALLW ∧ (CR k).2.2.1.cls = RO k ∧ plainName (CR k).2.2.1.cls = true ∧ (CR k).2.2.1.cls ≠ "java/lang/invoke/MethodHandle" ∧ (CR k).2.2.1.cls ≠ "java/lang/invoke/VarHandle" ∧ (parseMethodDescriptor (CR k).2.2.1.desc).map (fun d => d.parameters.length) = some (npC k) ∧ (CR k).2.2.1.name = "<init>" ∧ (CR k).1 = k ∧ npC k + 1 ≤ (CR k).2.2.2.2.1 ∧ (CR k).2.2.2.2.1 ≤ 21 := by
  have hmc := mc_ok k hk
  unfold MC at hmc
  unfold npC
  generalize CP.getD k (0, 0, 0, 0) = zz at hmc
  obtain ⟨z1, z2, z3, z4⟩ := zz
  simp only [Bool.and_eq_true, decide_eq_true_eq] at hmc
  obtain ⟨⟨⟨⟨⟨⟨⟨⟨⟨⟨⟨⟨⟨⟨g1, g2⟩, g3⟩, g4⟩, g5⟩, g6⟩, g7⟩, g8⟩, g9⟩, g10⟩, g11⟩, g12⟩, g13⟩, g14⟩, g15⟩ := hmc
  exact ⟨aw2 ⟨g1, g2⟩, by rw [g7]; exact aw2 ⟨g3, g4⟩, g7, g8, g9, g10, g11, g12, g13, g14, g15⟩
section CT4
variable {p : Program} {l : Launch} {e : Env} {R : Room} {s : State} {m : MethodId} {args : Array Value} {below : List Frame} {meth : Method} {c : Code} {D : va_G} {base : Nat} {cy : Nat → ClassId} {A : Nat → Prop} {o : Nat} {b : ByteArray} {nL : Nat} {cu su : Nat} {Z : State → Prop} {d : Nat}
variable {pc idx : Nat} {ls : Array Slot} {H : Heap} {locs : List Loc} {st : List W2} {h h' : List C2} {rest : List Value} {q k : Nat} {lv : List (Option W2)}
theorem call_back2 {mc ms : Nat} {st0 : List Value} {a : Array Value} (hr : va_Run p l e R s m args below meth c H locs cu su mc ms (F0 m pc ls st0) rest (Qc2 D base cy h' a) (fun q => base ≤ q)) (hS : va_S A s.heap H locs) (hA : ∀ q, base ≤ q → A q)
    (kk : ∀ (H1 : Heap) (locs1 : List Loc), va_P D clAll (ws2 base cy h') H1 → va_S A s.heap H1 locs1 → W p l e R s m args below meth c H1 locs1 (cu + mc) (su + ms) Z (F0 m (pc + 3) ls rest)) : W p l e R s m args below meth c H locs cu su Z (F0 m pc ls st0) := by
  intro T hT X
  obtain ⟨v, st₀, t, T', L, h0, X', hL, e1, e2, ⟨⟨hv, hP⟩, hf⟩, st⟩ := hr T hT X
  cases hv
  have hz' : H.size ≤ t.heap.size := by rw [← h0]; exact hf.1
  have hk : ∀ q : Nat, q < H.size → ¬ base ≤ q → t.heap[q]? = H[q]? := fun q h1 h2 => by rw [← h0]; exact hf.2 q (by rw [h0]; exact h1) h2
  obtain ⟨t2, a1, b1⟩ := kk T'.heap (locs ++ L) (by rw [e1]; exact hP) ⟨Nat.le_trans hS.1 (by rw [e1]; exact hz'), fun q h1 h2 => by rw [e1, hk q (Nat.lt_of_lt_of_le h1 hS.1) (fun z => h2 (hA q z))]; exact hS.2.1 q h1 h2, fun q hq => by
      rcases List.mem_append.mp hq with h | h
      · exact hS.2.2 q h
      · exact hA _ (hL q h)⟩ T' rfl X'
  exact ⟨t2, st t2 a1, b1⟩
theorem ct_call (C : Cy p s m args meth c D base cy A o b nL) {call : Nat → List W2 → List C2 → Option (List C2)} (HC : HC2 l D base cy d call) (hRf : d + 1 ≤ R.frames) (hRl : 40 * (d + 1) ≤ R.locals)
    (hd : decode b pc = .ok (.invokespecial idx, 3)) (hk : k < 11) (hl : CTL.any (fun q => q.1 == o && q.2.1 == idx && q.2.2.1 == k && q.2.2.2.1 == 1) = true ∨ CTN.any (fun q => q.1 == o && q.2.1 == idx && q.2.2.1 == k && q.2.2.2.1 == 2) = true) {av : List W2} (hav : av.length = npC k) (hrest : (rest.map fun v => v.category).sum ≤ 8)
    (hcs : cu + (bud k).1 ≤ R.cells ∧ su + (bud k).2 ≤ R.slots) (hz : H.size = base + h.length) (hls : ls.size = nL) (hc : call k (.inr (some q) :: av) h = some h') (hP : va_P D clAll (ws2 base cy h) H) (hS : va_S A s.heap H locs)
    (kk : ∀ (H1 : Heap) (locs1 : List Loc), va_P D clAll (ws2 base cy h') H1 → va_S A s.heap H1 locs1 → W p l e R s m args below meth c H1 locs1 (cu + (bud k).1) (su + (bud k).2) Z (F0 m (pc + 3) ls rest)) :
    W p l e R s m args below meth c H locs cu su Z (F0 m pc ls ((av.map (encW base)).reverse ++ .ref (base + q) :: rest)) := by
  obtain ⟨⟨hx, hb, hml⟩, hown, hts, hK, hA, hN⟩ := C
  obtain ⟨w1, w2, w3, w4, w5, w6, w7, w8, w9, w10, w11⟩ := mcf hk
  have hMet := HC k (.inr (some q) :: av) h h' hc hk (by rw [List.length_cons, hav])
  have hroom : (rm2 d k).frames + 1 ≤ R.frames ∧ 8 + ((CR k).2.2.2.2.1 + 11) + (rm2 d k).locals ≤ R.locals := ⟨by show d + 1 ≤ _; exact hRf, by show 8 + (_ + 11) + 40 * d ≤ _; omega⟩
  have hpre : PreS s H (Pc2 D base cy (.inr (some q) :: av) h) (.ref (base + q) :: av.map (encW base)) := ⟨pc2_blind, fun U hU hW => ⟨rfl, by rw [hU]; exact hz, by rw [hU]; exact hP, va_K.moved hW.alike hK, aux_warm hN hW⟩⟩
  have hrun : va_Run p l e R s m args below meth c H locs cu su (bud k).1 (bud k).2 (F0 m pc ls ((av.map (encW base)).reverse ++ .ref (base + q) :: rest)) rest (Qc2 D base cy h' (Value.ref (base + q) :: av.map (encW base)).toArray) (fun q => base ≤ q) := by
    rcases hl with hl | hl
    · obtain ⟨y, hm, hq'⟩ := any_at hl
      obtain ⟨q1, q2, q3, q4, q5⟩ := y
      simp only [Bool.and_eq_true, beq_iff_eq] at hq'
      obtain ⟨⟨⟨rfl, rfl⟩, rfl⟩, rfl⟩ := hq'
      exact va_runI (As := av.map (encW base)) (rest := rest) ⟨hx, hb, hml, hown, hts⟩ hMet
        (cwI (ws' := ALLW) (npC q3) hts (goodAll (wsC_in hk)) rfl rfl rfl (hts _ w2) (hts _ (aw2 (ctl_ok _ hm))) (hts _ w1) w8 ⟨w5, w6, w7⟩ hroom) hpre
        rfl (by rw [List.length_map, hav]) hls rfl (lv_room (by omega)) hd hcs
    · obtain ⟨y, hm, hq'⟩ := any_at hl
      obtain ⟨q1, q2, q3, q4, q5⟩ := y
      simp only [Bool.and_eq_true, beq_iff_eq] at hq'
      obtain ⟨⟨⟨rfl, rfl⟩, rfl⟩, rfl⟩ := hq'
      have hnw := hN.1 _ hm
      exact va_runIN (host := "BedsArePlaces") (As := av.map (encW base)) (rest := rest) ⟨hx, hb, hml, hown, hts⟩ hMet
        ⟨va_cnB (ws' := ALLW) (npC q3) hts (goodAll (wsC_in hk)) rfl rfl rfl hnw (hts _ w2) ⟨w5, w6, w7⟩ hroom, w8, hts _ w1⟩ hpre
        rfl (by rw [List.length_map, hav]) hls rfl (lv_room (by omega)) hd hcs
  exact call_back2 hrun hS hA kk
theorem ct_obj (C : Cy p s m args meth c D base cy A o b nL) (hRf : 1 ≤ R.frames) (hRl : 40 ≤ R.locals) (hd : decode b pc = .ok (.invokespecial idx, 3)) (hl : CTO.any (fun q => q.1 == o && q.2.1 == idx) = true) (hrest : (rest.map fun v => v.category).sum ≤ 8) (hls : ls.size = nL)
    (kk : W p l e R s m args below meth c H locs cu su Z (F0 m (pc + 3) ls rest)) : W p l e R s m args below meth c H locs cu su Z (F0 m pc ls (.ref (base + q) :: rest)) := by
  obtain ⟨⟨hx, hb, hml⟩, hown, hts, hK, hA, hN⟩ := C
  obtain ⟨y, hm, hq'⟩ := any_at hl
  obtain ⟨q1, q2, q3, q4, q5⟩ := y
  simp only [Bool.and_eq_true, beq_iff_eq] at hq'
  obtain ⟨rfl, rfl⟩ := hq'
  have hlk := aw2 (cto_ok _ hm)
  have hmk : mkC (q1, q2, q3, q4, q5) = .methodLink (RO q1) q2 Lib.objectInit := by
    have hall : ∀ y ∈ CTO, y.2.2.2.1 = 0 := by decide
    have : q4 = 0 := hall _ hm
    subst this
    rfl
  rw [hmk] at hlk
  have hr2 : 2 * (F0 m pc ls (.ref (base + q) :: rest)).monitorRoom + (rest.map fun v => v.category).sum ≤ 8 := lv_room (by omega)
  exact W.objInit hx hb hown (hts _ hlk) (hts _ oi_ok.1) (hts _ oi_ok.2) rfl (by rw [hml]; exact hls) rfl hd hRf (by omega) kk
end CT4
