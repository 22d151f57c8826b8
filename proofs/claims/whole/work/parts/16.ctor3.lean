-- 16.ctor3: the constructors' machine, instruction by instruction
theorem nn_of {z : Int32} (h : 0 ≤ z) : ¬ z < 0 := fun q => by
  have h1 := Int32.le_iff_toInt_le.mp h
  have h2 := Int32.lt_iff_toInt_lt.mp q
  omega
theorem in_of {z : Int32} {n : Nat} (h : 0 ≤ z) (h2 : z.toNatClampNeg < n) : vp_in z n := fun q => by
  rcases q with q | q
  · exact nn_of h q
  · omega
theorem okV_enc {k s base : Nat} {v : W2} (h : okV k s v = true) : narrow (tyF k s) (encW base v) = encW base v ∧ fits (tyF k s) (encW base v) = true := by
  unfold okV at h
  split at h
  · rename_i e; rw [e]; exact ⟨rfl, rfl⟩
  · rename_i e
    rw [e]
    rcases of_decide_eq_true h with rfl | rfl <;> exact ⟨rfl, rfl⟩
  · rename_i e; rw [e]; exact ⟨rfl, rfl⟩
  · rename_i e; rw [e]; exact ⟨rfl, rfl⟩
  · cases h
section CT3
variable {p : Program} {l : Launch} {e : Env} {R : Room} {s : State} {m : MethodId} {args : Array Value} {below : List Frame} {meth : Method} {c : Code} {D : va_G} {base : Nat} {cy : Nat → ClassId} {A : Nat → Prop} {o : Nat} {b : ByteArray} {nL : Nat} {cu su : Nat} {Z : State → Prop} {d : Nat}
variable {pc idx : Nat} {ls : Array Slot} {H : Heap} {locs : List Loc} {st : List W2} {h : List C2} {rest : List Value} {a bb q t : Nat} {l0 : List W2}
theorem ct_newa (C : Cy p s m args meth c D base cy A o b nL) {ty : ArrayType} (hd : decode b pc = .ok (.newarray ty, 2)) (ha : a < 3) (hty : newarray.typeOf ty = ety a) {v : Int32} (h0 : 0 ≤ v) (hv : v.toNatClampNeg ≤ 100000) (hcs : cu + 1 ≤ R.cells ∧ su + v.toNatClampNeg ≤ R.slots) (hz : H.size = base + h.length) (hP : va_P D clAll (ws2 base cy h) H) (hS : va_S A s.heap H locs)
    (kk : ∀ (H1 : Heap), va_P D clAll (ws2 base cy (h ++ [(100 + a, List.replicate v.toNatClampNeg (Sum.inl 0))])) H1 → va_S A s.heap H1 locs → W p l e R s m args below meth c H1 locs (cu + 1) (su + v.toNatClampNeg) Z (F0 m (pc + 2) ls (.ref (base + h.length) :: rest))) :
    W p l e R s m args below meth c H locs cu su Z (F0 m pc ls (.int v :: rest)) := by
  obtain ⟨⟨hx, hb, hml⟩, hown, hts, hK, hA, hN⟩ := C
  have harr : Cond.arrayClass (newarray.typeOf ty) ∈ ALLW := by
    rw [hty]
    rcases (show a = 0 ∨ a = 1 ∨ a = 2 by omega) with rfl | rfl | rfl <;> exact List.mem_filter.mpr (by decide +kernel)
  refine va_newaK hx hb (hts _ harr) rfl hd rfl (nn_of h0) rfl (by rw [hty]; rcases (show a = 0 ∨ a = 1 ∨ a = 2 by omega) with rfl | rfl | rfl <;> (show _ * _ ≤ _; simp only [ety, componentBytes]; omega)) hcs.1 hcs.2 hz fun H1 cA e1 z1 o1 hAr hnm => ?_
  have hcA : cA = cy a := by
    have := cy_find hK (t := a) (by omega)
    rw [hty] at hnm
    exact Option.some.inj (hnm.symm.trans this)
  rw [← hz] at o1
  refine kk H1 ?_ (push_S hS (by rw [z1, hz]) o1)
  rw [ws2_app]
  refine push_ok hP hz o1 ?_
  unfold encC
  rw [if_neg (by dsimp only; omega), if_pos (by dsimp only; omega)]
  show H1[base + h.length]? = some (vp_cell _ _)
  rw [e1, hcA, vp_cell_i]
  rw [show (100 + a, List.replicate v.toNatClampNeg (Sum.inl 0 : W2)).1 - 100 = a by dsimp only; omega]
  rw [show (100 + a, List.replicate v.toNatClampNeg (Sum.inl 0 : W2)).2.length = v.toNatClampNeg from List.length_replicate]
  congr 2
  funext j
  have e2 : w2i ((List.replicate v.toNatClampNeg (Sum.inl 0 : W2)).getD j (.inl 0)) = 0 := by
    rw [List.getD_eq_getElem?_getD]
    by_cases hj : j < v.toNatClampNeg
    · rw [List.getElem?_replicate, if_pos hj]; rfl
    · rw [List.getElem?_replicate, if_neg hj]; rfl
  show defaultValue (newarray.typeOf ty) = Value.int _
  rw [e2, hty]
  rcases (show a = 0 ∨ a = 1 ∨ a = 2 by omega) with rfl | rfl | rfl <;> rfl
theorem ct_newq (C : Cy p s m args meth c D base cy A o b nL) (hd : decode b pc = .ok (.anewarray idx, 3)) (h3 : 3 ≤ a) (h7 : a ≤ 7) (hl : CLN.any (fun q => q.1 == o && q.2.1 == idx && q.2.2.1 == elc a) = true) {v : Int32} (h0 : 0 ≤ v) (hv : v.toNatClampNeg ≤ 100000) (hcs : cu + 1 ≤ R.cells ∧ su + v.toNatClampNeg ≤ R.slots) (hz : H.size = base + h.length) (hP : va_P D clAll (ws2 base cy h) H) (hS : va_S A s.heap H locs)
    (kk : ∀ (H1 : Heap), va_P D clAll (ws2 base cy (h ++ [(100 + a, List.replicate v.toNatClampNeg (Sum.inr none))])) H1 → va_S A s.heap H1 locs → W p l e R s m args below meth c H1 locs (cu + 1) (su + v.toNatClampNeg) Z (F0 m (pc + 3) ls (.ref (base + h.length) :: rest))) :
    W p l e R s m args below meth c H locs cu su Z (F0 m pc ls (.int v :: rest)) := by
  obtain ⟨⟨hx, hb, hml⟩, hown, hts, hK, hA, hN⟩ := C
  obtain ⟨q, hm, hq'⟩ := any_at hl
  obtain ⟨q1, q2, q3, q4⟩ := q
  simp only [Bool.and_eq_true, beq_iff_eq] at hq'
  obtain ⟨⟨rfl, rfl⟩, rfl⟩ := hq'
  obtain ⟨hw, h11⟩ := cln_ok _ hm
  have hety : ety a = .object (RO (elc a)) := by
    rcases (show a = 3 ∨ a = 4 ∨ a = 5 ∨ a = 6 ∨ a = 7 by omega) with rfl | rfl | rfl | rfl | rfl <;> rfl
  refine W.anew hx hb hown (hts _ (aw2 hw)) (va_AO.use (hN.2 a h3 h7)) rfl hd rfl (nn_of h0) (by omega) hcs.1 hcs.2 fun cA kA comp f1 f2 f3 f4 => ?_
  generalize hH1 : H.push ({ cls := cA, slots := Array.replicate v.toNatClampNeg .null, vm := .none } : Cell) = H1
  have z1 : H1.size = H.size + 1 := by rw [← hH1, Array.size_push]
  have e1 : H1[H.size]? = some (arrV cA v.toNatClampNeg (fun _ => .null)) := by rw [← hH1, Array.getElem?_push_size, ← arrV_new]
  have o1 : ∀ q : Nat, q < H.size → H1[q]? = H[q]? := fun q hq => by rw [← hH1, Array.getElem?_push, if_neg (Nat.ne_of_lt hq)]
  have hcA : cA = cy a := by
    have := cy_find hK (t := a) h7
    rw [hety] at this
    exact Option.some.inj (f1.symm.trans this)
  have e9 : ∀ g : JFrame, g = F0 m (pc + 3) ls (.ref (base + h.length) :: rest) → W p l e R s m args below meth c H1 locs (cu + 1) (su + v.toNatClampNeg) Z g := fun g hg => by
    rw [hg]
    refine kk H1 ?_ (push_S hS z1 o1)
    rw [ws2_app]
    refine push_ok hP hz o1 ?_
    unfold encC
    rw [if_neg (by dsimp only; omega), if_neg (by dsimp only; omega)]
    show H1[base + h.length]? = some (vp_cell _ _)
    rw [← hz, e1, hcA, vp_cell_q]
    rw [show (100 + a, List.replicate v.toNatClampNeg (Sum.inr none : W2)).1 - 100 = a by dsimp only; omega]
    rw [show (100 + a, List.replicate v.toNatClampNeg (Sum.inr none : W2)).2.length = v.toNatClampNeg from List.length_replicate]
    congr 2
    funext j
    have e2 : w2r ((List.replicate v.toNatClampNeg (Sum.inr none : W2)).getD j (.inr none)) = none := by
      rw [List.getD_eq_getElem?_getD]
      by_cases hj : j < v.toNatClampNeg
      · rw [List.getElem?_replicate, if_pos hj]; rfl
      · rw [List.getElem?_replicate, if_neg hj]; rfl
    show Value.null = va_rf _
    rw [e2]
    rfl
  exact e9 _ (by rw [hz])
theorem fl2_at (hl : FL2.any (fun q => q.1 == o && q.2.1 == idx && q.2.2.1 == a && q.2.2.2.1 == bb) = true) : ∃ q5, mkF (o, idx, a, bb, q5) ∈ ALLW ∧ a < 11 ∧ bb < NF a := by
  obtain ⟨q, hm, hq'⟩ := any_at hl
  obtain ⟨q1, q2, q3, q4, q5⟩ := q
  simp only [Bool.and_eq_true, beq_iff_eq] at hq'
  obtain ⟨⟨⟨rfl, rfl⟩, rfl⟩, rfl⟩ := hq'
  obtain ⟨h1, h2, h3⟩ := fl2_ok _ hm
  exact ⟨q5, aw2 h1, h2, h3⟩
theorem ct_get (C : Cy p s m args meth c D base cy A o b nL) (hd : decode b pc = .ok (.getfield idx, 3)) (hl : FL2.any (fun q => q.1 == o && q.2.1 == idx && q.2.2.1 == a && q.2.2.2.1 == bb) = true) (hq : h[q]? = some (a, l0)) {v : W2} (hv : l0[bb]? = some v) (hP : va_P D clAll (ws2 base cy h) H)
    (kk : W p l e R s m args below meth c H locs cu su Z (F0 m (pc + 3) ls (encW base v :: rest))) :
    W p l e R s m args below meth c H locs cu su Z (F0 m pc ls (.ref (base + q) :: rest)) := by
  obtain ⟨⟨hx, hb, hml⟩, hown, hts, hK, hA, hN⟩ := C
  obtain ⟨q5, hF, h11, hN2⟩ := fl2_at hl
  have hws := ws2_at (base := base) (cy := cy) hq
  unfold encC at hws
  rw [if_pos h11] at hws
  exact va_get (D := D) (ci := a) (C := RO a) (T := TF a) (N := NF a) hx hb hts (uw_at h11) hown hK hP q hws (cl_at h11) bb hN2 (hts _ hF) (fun _ h9 => h9) (by rw [List.getElem?_map, hv]; rfl) hd kk
theorem ct_put (C : Cy p s m args meth c D base cy A o b nL) (hin : meth.name = "<init>") (hd : decode b pc = .ok (.putfield idx, 3)) (hl : FL2.any (fun q => q.1 == o && q.2.1 == idx && q.2.2.1 == a && q.2.2.2.1 == bb) = true) (hdc : (TF a bb).1 = RO o) (hq : h[q]? = some (a, l0)) (hbl : bb < l0.length) {v : W2} (hv : okV a bb v = true) (hP : va_P D clAll (ws2 base cy h) H) (hS : va_S A s.heap H locs)
    (kk : ∀ (H1 : Heap) (locs1 : List Loc), va_P D clAll (ws2 base cy (h.set q (a, l0.set bb v))) H1 → va_S A s.heap H1 locs1 → W p l e R s m args below meth c H1 locs1 cu su Z (F0 m (pc + 3) ls rest)) :
    W p l e R s m args below meth c H locs cu su Z (F0 m pc ls (encW base v :: .ref (base + q) :: rest)) := by
  obtain ⟨⟨hx, hb, hml⟩, hown, hts, hK, hA, hN⟩ := C
  obtain ⟨q5, hF, h11, hN2⟩ := fl2_at hl
  have hws := ws2_at (base := base) (cy := cy) hq
  unfold encC at hws
  rw [if_pos h11] at hws
  obtain ⟨n1, n2⟩ := okV_enc (base := base) hv
  have e1 : (ws2 base cy h).set q (base + q, .inr (a, (l0.map (encW base)).set bb (encW base v))) = ws2 base cy (h.set q (a, l0.set bb v)) := by
    rw [← ws2_set]
    unfold encC
    rw [if_pos h11, List.map_set]
  by_cases hfin : (TF a bb).2.2.2 = true
  · refine va_putF (D := D) (ci := a) (C := RO a) (T := TF a) (N := NF a) hx hb hts (uw_at h11) (tyF a) (ty_at h11) (nm_at h11) hown hK hP (ws2_D hA) hS q hws (cl_at h11) bb hN2 (hts _ hF) (fun _ h9 => h9) hfin hin hdc (ty_at h11 _ hN2) n1 n2 (by rw [List.length_map]; exact hbl) hd (fun H1 locs1 hP1 hD1 hS1 => ?_)
    rw [e1] at hP1
    exact kk H1 locs1 hP1 hS1
  · refine va_put (D := D) (ci := a) (C := RO a) (T := TF a) (N := NF a) hx hb hts (uw_at h11) (tyF a) (ty_at h11) (nm_at h11) hown hK hP (ws2_D hA) hS q hws (cl_at h11) bb hN2 (hts _ hF) (fun _ h9 => h9) (by simpa using hfin) (ty_at h11 _ hN2) n1 n2 (by rw [List.length_map]; exact hbl) hd (fun H1 locs1 hP1 hD1 hS1 => ?_)
    rw [e1] at hP1
    exact kk H1 locs1 hP1 hS1
theorem w2i_set {l : List W2} {i : Nat} {z : Int32} (hi : i < l.length) : (fun j => w2i ((l.set i (.inl z)).getD j (.inl 0))) = upd (fun j => w2i (l.getD j (.inl 0))) i z := by
  funext j
  rw [List.getD_eq_getElem?_getD]
  by_cases hj : j = i
  · subst hj
    rw [List.getElem?_set_self hi, upd_at]
    rfl
  · rw [List.getElem?_set_ne (Ne.symm hj), upd_ne hj, List.getD_eq_getElem?_getD]
theorem w2r_set {l : List W2} {i w base : Nat} (hi : i < l.length) : (fun j => (w2r ((l.set i (.inr (some w))).getD j (.inr none))).map (base + ·)) = va_up (fun j => (w2r (l.getD j (.inr none))).map (base + ·)) i (some (base + w)) := by
  funext j
  unfold va_up
  rw [List.getD_eq_getElem?_getD]
  by_cases hj : j = i
  · subst hj
    rw [List.getElem?_set_self hi, if_pos rfl]
    rfl
  · rw [List.getElem?_set_ne (Ne.symm hj), if_neg hj]
    dsimp only
    rw [List.getD_eq_getElem?_getD]
theorem ct_ist (C : Cy p s m args meth c D base cy A o b nL) (hd : decode b pc = .ok (.iastore, 1)) (hq : h[q]? = some (100, l0)) {i z : Int32} (h0 : 0 ≤ i) (hi : i.toNatClampNeg < l0.length) (hP : va_P D clAll (ws2 base cy h) H) (hS : va_S A s.heap H locs)
    (kk : ∀ (H1 : Heap) (locs1 : List Loc), va_P D clAll (ws2 base cy (h.set q (100, l0.set i.toNatClampNeg (.inl z)))) H1 → va_S A s.heap H1 locs1 → W p l e R s m args below meth c H1 locs1 cu su Z (F0 m (pc + 1) ls rest)) :
    W p l e R s m args below meth c H locs cu su Z (F0 m pc ls (.int z :: .int i :: .ref (base + q) :: rest)) := by
  obtain ⟨⟨hx, hb, hml⟩, hown, hts, hK, hA, hN⟩ := C
  have hws := ws2_at (base := base) (cy := cy) hq
  refine va_iast (D := D) (n := l0.length) (f := fun j => w2i (l0.getD j (.inl 0))) hx hb hK hP (ws2_D hA) hS q 0 hws rfl (in_of h0 hi) hd (fun H1 locs1 hP1 hD1 hS1 => kk H1 locs1 ?_ hS1)
  rw [← ws2_set]
  have e : encC base cy (100, l0.set i.toNatClampNeg (.inl z)) = .inl (cy 0, l0.length, .inl (upd (fun j => w2i (l0.getD j (.inl 0))) i.toNatClampNeg z)) := by
    rw [← w2i_set hi]
    show Sum.inl (cy 0, (l0.set i.toNatClampNeg (Sum.inl z)).length, _) = _
    rw [List.length_set]
  rw [e]
  exact hP1
theorem ct_cst (C : Cy p s m args meth c D base cy A o b nL) (hd : decode b pc = .ok (.castore, 1)) (hq : h[q]? = some (102, l0)) {i z : Int32} (h0 : 0 ≤ i) (hi : i.toNatClampNeg < l0.length) (hz0 : 0 ≤ z) (hz1 : z ≤ 65535) (hP : va_P D clAll (ws2 base cy h) H) (hS : va_S A s.heap H locs)
    (kk : ∀ (H1 : Heap) (locs1 : List Loc), va_P D clAll (ws2 base cy (h.set q (102, l0.set i.toNatClampNeg (.inl z)))) H1 → va_S A s.heap H1 locs1 → W p l e R s m args below meth c H1 locs1 cu su Z (F0 m (pc + 1) ls rest)) :
    W p l e R s m args below meth c H locs cu su Z (F0 m pc ls (.int z :: .int i :: .ref (base + q) :: rest)) := by
  obtain ⟨⟨hx, hb, hml⟩, hown, hts, hK, hA, hN⟩ := C
  have hws := ws2_at (base := base) (cy := cy) hq
  have hzz : vp_nar .char z = z := by
    obtain ⟨j, hj, rfl⟩ := nI_of2 (M := 65535) (n := 65535) (by decide) (nn_of hz0) hz1
    rw [vp_nar_char]
    have := (pk_charN (q := j) (by omega)).1
    have e := vp_nar_char (nI j)
    unfold vp_nar at e
    rw [this] at e
    exact e.symm
  refine va_cast (D := D) (n := l0.length) (f := fun j => w2i (l0.getD j (.inl 0))) hx hb hK hP (ws2_D hA) hS q 2 hws rfl (in_of h0 hi) hd (fun H1 locs1 hP1 hD1 hS1 => kk H1 locs1 ?_ hS1)
  rw [← ws2_set]
  have e : encC base cy (102, l0.set i.toNatClampNeg (.inl z)) = .inl (cy 2, l0.length, .inl (upd (fun j => w2i (l0.getD j (.inl 0))) i.toNatClampNeg z)) := by
    rw [← w2i_set hi]
    show Sum.inl (cy 2, (l0.set i.toNatClampNeg (Sum.inl z)).length, _) = _
    rw [List.length_set]
  rw [hzz] at hP1
  rw [e]
  exact hP1
theorem ct_ast (C : Cy p s m args meth c D base cy A o b nL) (hd : decode b pc = .ok (.aastore, 1)) {w tw : Nat} {l1 : List W2} (ht1 : 103 ≤ t) (ht2 : t ≤ 107) (hq : h[q]? = some (t, l0)) (hw : h[w]? = some (tw, l1)) (htw : tw = elc (t - 100)) {i : Int32} (h0 : 0 ≤ i) (hi : i.toNatClampNeg < l0.length) (hP : va_P D clAll (ws2 base cy h) H) (hS : va_S A s.heap H locs)
    (kk : ∀ (H1 : Heap) (locs1 : List Loc), va_P D clAll (ws2 base cy (h.set q (t, l0.set i.toNatClampNeg (.inr (some w))))) H1 → va_S A s.heap H1 locs1 → W p l e R s m args below meth c H1 locs1 cu su Z (F0 m (pc + 1) ls rest)) :
    W p l e R s m args below meth c H locs cu su Z (F0 m pc ls (.ref (base + w) :: .int i :: .ref (base + q) :: rest)) := by
  obtain ⟨⟨hx, hb, hml⟩, hown, hts, hK, hA, hN⟩ := C
  have hws := ws2_at (base := base) (cy := cy) hq
  have hwv := ws2_at (base := base) (cy := cy) hw
  have h11 : tw < 11 := by rw [htw]; unfold elc; split <;> omega
  unfold encC at hws hwv
  rw [if_neg (by dsimp only; omega), if_neg (by dsimp only; omega)] at hws
  rw [if_pos h11] at hwv
  have hty : (tysA cy)[t - 100]? = some (cy (t - 100), .object (RO tw)) := by
    rw [tysA_at cy (by omega), htw]
    rcases (show t = 103 ∨ t = 104 ∨ t = 105 ∨ t = 106 ∨ t = 107 by omega) with rfl | rfl | rfl | rfl | rfl <;> rfl
  refine va_astq (D := D) (r := (RO tw, TF tw, NF tw)) (n := l0.length) hx hb hK hP (ws2_D hA) hS q (t - 100) w tw hws hty hwv (cl_at h11) (in_of h0 hi) hd (fun H1 locs1 hP1 hD1 hS1 => kk H1 locs1 ?_ hS1)
  rw [← ws2_set]
  have e : encC base cy (t, l0.set i.toNatClampNeg (.inr (some w))) = .inl (cy (t - 100), l0.length, .inr (.inr (.inr (.inr (va_up (fun j => (w2r (l0.getD j (.inr none))).map (base + ·)) i.toNatClampNeg (some (base + w))))))) := by
    rw [← w2r_set hi]
    unfold encC
    rw [if_neg (by dsimp only; omega), if_neg (by dsimp only; omega)]
    show Sum.inl (cy (t - 100), (l0.set i.toNatClampNeg (Sum.inr (some w))).length, _) = _
    rw [List.length_set]
  rw [e]
  exact hP1
end CT3
