-- 09.sound4: one step, instruction by instruction: cells, fields, arrays, texts, calls
def isI (v : AV) : Bool := match v with
  | .inl _ => true
  | .inr _ => false
theorem cid_int : ∀ c ∈ cids, kcls c.1 < 11 → ∀ s, s < NF (kcls c.1) → fty (kcls c.1) s ≤ 1 → isI (gfv (fun _ _ _ _ => 0) c.1 c.2.1 c.2.2 s) = true ∧ ¬ (c.1 = 11 ∧ s = 6) := by decide +kernel
theorem sLen_eq : ∀ i, i < 11 → sLenL.getD i 0 = sLen i := by decide +kernel
theorem PR_own : ∀ m, m < 230 → (PR m).1 ≤ 16 := by decide +kernel
theorem kcls_or (k : Nat) : kcls k < 11 ∨ kcls k = 99 := by
  unfold kcls
  split <;> first | exact Or.inl (by decide) | exact Or.inr rfl
theorem any_at {α : Type} {L : List α} {f : α → Bool} (h : L.any f = true) : ∃ q ∈ L, f q = true := by
  simpa [List.any_eq_true] using h
section SND4
variable {p : Program} {l : Launch} {e : Env} {R : Room} {s : State} {m : MethodId} {args : Array Value} {below : List Frame} {meth : Method} {c : Code} {D : va_G} {ad : Id3 → Nat} {cy : Nat → ClassId} {fm : Value} {A : Nat → Prop} {V90 : Prop} {G0 : Mem} {o : Nat} {b : ByteArray} {nL : Nat} {ret : Option FieldType} {cells slots : Nat} {Z : State → Prop} {d : Nat}
variable {M : Mem} {rest : List Value} {k i j a bb pc idx : Nat} {ls : Array Slot} {H : Heap} {locs : List Loc}
theorem cell_obj {q : Id3} (h : kcls q.1 < 11) : cellE ad cy M q = .inr (kcls q.1, (List.range (NF (kcls q.1))).map fun s => encA ad .null (gfv M q.1 q.2.1 q.2.2 s)) := if_pos h
theorem cell_arr {q : Id3} (h : aty q.1 < 3) : cellE ad cy M q = .inl (cy (aty q.1), alen q.1, .inl (M q.1 q.2.1 q.2.2)) := by
  unfold cellE
  rw [if_neg (by rw [aty_kcls (by omega)]; decide), if_pos h]
theorem cell_refs {q : Id3} (h1 : 3 ≤ aty q.1) (h2 : aty q.1 ≤ 7) : cellE ad cy M q = .inl (cy (aty q.1), alen q.1, .inr (.inr (.inr (.inr fun n => some (ad (aref q.1 q.2.1 n)))))) := by
  unfold cellE
  rw [if_neg (by rw [aty_kcls h2]; decide), if_neg (by omega)]
theorem fs_at {q : Id3} {n t : Nat} (h : t < n) : ((List.range n).map fun s => encA ad .null (gfv M q.1 q.2.1 q.2.2 s))[t]? = some (encA ad .null (gfv M q.1 q.2.1 q.2.2 t)) := by
  rw [List.getElem?_map, List.getElem?_range h]
  rfl
theorem gfv_slot {M' : Mem} {t : Nat} (h : M' k i j t = M k i j t) (hc : (k, i, j) ∈ cids) : gfv M' k i j t = gfv M k i j t := by
  by_cases hd : k = 11 ∧ t = 6
  · obtain ⟨rfl, rfl⟩ := hd
    have e := cid_one _ hc rfl
    cases e
    show (Sum.inr (9, (M' 11 0 0 6).toNatClampNeg, 0) : AV) = .inr (9, (M 11 0 0 6).toNatClampNeg, 0)
    rw [h]
  · cases hg : gfv M k i j t with
    | inr d => exact gfv_ref hg hd
    | inl x =>
      cases hg' : gfv M' k i j t with
      | inr d => rw [gfv_ref (M' := M) hg' hd] at hg; cases hg
      | inl y => rw [gfv_int hg, gfv_int hg', h]
theorem gfv_isI (hc : (k, i, j) ∈ cids) {t : Nat} (hk : kcls k < 11) (ht : t < NF (kcls k)) (hf : fty (kcls k) t ≤ 1) : gfv M k i j t = .inl (M k i j t) := by
  obtain ⟨h1, h2⟩ := cid_int _ hc hk t ht hf
  cases hg : gfv M k i j t with
  | inl x => rw [gfv_int hg]
  | inr d => rw [gfv_ref hg h2] at h1; cases h1
theorem snd_get (C : Cx p s m args meth c D ad cy fm A V90 G0 o b nL ret) (hd : decode b pc = .ok (.getfield idx, 3)) (hl : FLDS.any (fun q => q.1 == o && q.2.1 == idx && q.2.2.1 == a && q.2.2.2.1 == bb) = true) (hk : kcls k = a) (hq : vAV V90 (.inr (k, i, j))) (h6 : k = 11 ∧ bb = 6 → (M 11 0 0 6).toNatClampNeg < 16)
    (hP : va_P D clAll (wsM ad cy M) H) (kk : vAV V90 (gfv M k i j bb) → W p l e R s m args below meth c H locs cells slots Z (F0 m (pc + 3) ls (encA ad fm (gfv M k i j bb) :: rest))) :
    W p l e R s m args below meth c H locs cells slots Z (F0 m pc ls (encA ad fm (.inr (k, i, j)) :: rest)) := by
  obtain ⟨⟨hx, hb, hml, hr, hlk⟩, hown, hts, hK, hA, hinj, ks, hfm, hscr⟩ := C
  obtain ⟨q, hm, hq'⟩ := any_at hl
  simp only [Bool.and_eq_true, beq_iff_eq] at hq'
  obtain ⟨⟨⟨rfl, rfl⟩, rfl⟩, rfl⟩ := hq'
  have hlt := fld_lt q hm
  have hk11 : kcls k < 11 := by rw [hk]; exact hlt.1
  have hc := hq.cid (kcls_lt hk11)
  obtain ⟨i0, hi, hws⟩ := ws_get (ad := ad) (cy := cy) (M := M) hc
  rw [cell_obj hk11] at hws
  rw [enc_cid hc]
  refine va_get (D := D) (ci := kcls k) (C := RO (kcls k)) (T := TF (kcls k)) (N := NF (kcls k)) hx hb hts (uw_at hk11) hown hK hP i0 hws (cl_at hk11) q.2.2.2.1 (by rw [hk]; exact hlt.2) (by rw [hk]; exact hts _ (aw2 (fld_ok q hm))) (fun _ h9 => h9) (fs_at (by rw [hk]; exact hlt.2)) hd ?_
  rcases gfv_ok hc hk11 (s := q.2.2.2.1) (by rw [hk]; exact hlt.2) h6 with ⟨d, h1, h2⟩ | h2
  · have h3 := kk (by rw [h2]; exact Or.inl h1)
    rw [h2] at h3 ⊢
    rw [enc_cid h1] at h3 ⊢
    exact h3
  · have h3 := kk (by rw [h2]; trivial)
    rw [h2] at h3 ⊢
    exact h3
theorem upd_at (f : Nat → Int32) (t : Nat) (x : Int32) : upd f t x t = x := by simp [upd]
theorem upd_ne {f : Nat → Int32} {t u : Nat} {x : Int32} (h : u ≠ t) : upd f t x u = f u := by simp [upd, h]
theorem mu_at (M : Mem) (k i j t : Nat) (x : Int32) : mu M k i j t x k i j = upd (M k i j) t x := mr_same _ _ _ _ _
theorem fs_set {q : Id3} (hc : q ∈ cids) {n t : Nat} {v : Value} {x : Int32} (ht : t < n) (hv : v = encA ad .null (gfv (mu M q.1 q.2.1 q.2.2 t x) q.1 q.2.1 q.2.2 t)) : ((List.range n).map fun s => encA ad .null (gfv M q.1 q.2.1 q.2.2 s)).set t v = (List.range n).map fun s => encA ad .null (gfv (mu M q.1 q.2.1 q.2.2 t x) q.1 q.2.1 q.2.2 s) := by
  apply List.ext_getElem?
  intro u
  by_cases hu : u = t
  · subst hu
    rw [List.getElem?_set_self (by simpa using ht), fs_at ht, hv]
  · rw [List.getElem?_set_ne (Ne.symm hu)]
    have h1 : gfv (mu M q.1 q.2.1 q.2.2 t x) q.1 q.2.1 q.2.2 u = gfv M q.1 q.2.1 q.2.2 u := gfv_slot (by rw [mu_at, upd_ne hu]) hc
    by_cases hn : u < n
    · rw [fs_at hn, fs_at (M := mu M q.1 q.2.1 q.2.2 t x) hn, h1]
    · rw [List.getElem?_eq_none (by simp; omega), List.getElem?_eq_none (by simp; omega)]
theorem snd_put0 (C : Cx p s m args meth c D ad cy fm A V90 G0 o b nL ret) (hd : decode b pc = .ok (.putfield idx, 3)) (hl : FLDS.any (fun q => q.1 == o && q.2.1 == idx && q.2.2.1 == a && q.2.2.2.1 == bb) = true) (hk : kcls k = a) (hq : vAV V90 (.inr (k, i, j))) {x : Int32} {v : Value} {ty : FieldType} (hfin : (TF a bb).2.2.2 = false) (hty : tyF a bb = ty) (hn : narrow ty v = v) (hfit : fits ty v = true)
    (hv : (k, i, j) ∈ cids → bb < NF (kcls k) → v = encA ad .null (gfv (mu M k i j bb x) k i j bb))
    (hP : va_P D clAll (wsM ad cy M) H) (hS : va_S A s.heap H locs) (kk : ∀ (H1 : Heap) (locs1 : List Loc), (k, i, j) ∈ cids → va_P D clAll (wsM ad cy (mu M k i j bb x)) H1 → va_S A s.heap H1 locs1 → W p l e R s m args below meth c H1 locs1 cells slots Z (F0 m (pc + 3) ls rest)) :
    W p l e R s m args below meth c H locs cells slots Z (F0 m pc ls (v :: encA ad fm (.inr (k, i, j)) :: rest)) := by
  obtain ⟨⟨hx, hb, hml, hr, hlk⟩, hown, hts, hK, hA, hinj, ks, hfm, hscr⟩ := C
  obtain ⟨q, hm, hq'⟩ := any_at hl
  simp only [Bool.and_eq_true, beq_iff_eq] at hq'
  obtain ⟨⟨⟨rfl, rfl⟩, e1⟩, rfl⟩ := hq'
  have hlt := fld_lt q hm
  have hk11 : kcls k < 11 := by rw [hk, ← e1]; exact hlt.1
  have hN : q.2.2.2.1 < NF (kcls k) := by rw [hk, ← e1]; exact hlt.2
  have hc := hq.cid (kcls_lt hk11)
  obtain ⟨i0, hi, hws⟩ := ws_get (ad := ad) (cy := cy) (M := M) hc
  rw [cell_obj hk11] at hws
  rw [enc_cid hc]
  subst hk
  have hF := aw2 (fld_ok q hm)
  unfold mkF at hF
  rw [e1] at hF
  refine va_put (D := D) (ci := kcls k) (C := RO (kcls k)) (T := TF (kcls k)) (N := NF (kcls k)) hx hb hts (uw_at hk11) (tyF (kcls k)) (ty_at hk11) (nm_at hk11) hown hK hP (ws_D hA hinj M) hS i0 hws (cl_at hk11) q.2.2.2.1 hN (hts _ hF) (fun _ h9 => h9) hfin ((ty_at hk11 _ hN).trans (congrArg some hty)) hn hfit (by simpa using hN) hd (fun H1 locs1 hP1 hD1 hS1 => ?_)
  refine kk H1 locs1 hc ?_ hS1
  have e2 := fs_set (ad := ad) (M := M) (q := (k, i, j)) hc (x := x) hN (hv hc hN)
  have e3 := ws_set (ad := ad) (cy := cy) (M := M) (M' := mu M k i j q.2.2.2.1 x) hi (fun q' h1 h2 => cell_ne h1 h2)
  rw [cell_obj hk11] at e3
  rw [← e3]
  rw [e2] at hP1
  exact hP1
theorem snd_iald (C : Cx p s m args meth c D ad cy fm A V90 G0 o b nL ret) (hd : decode b pc = .ok (.iaload, 1)) (ht : aty k = 0) (hq : vAV V90 (.inr (k, i, j))) {x : Int32} (hin : vp_in x (alen k))
    (hP : va_P D clAll (wsM ad cy M) H) (kk : W p l e R s m args below meth c H locs cells slots Z (F0 m (pc + 1) ls (.int (M k i j x.toNatClampNeg) :: rest))) :
    W p l e R s m args below meth c H locs cells slots Z (F0 m pc ls (.int x :: encA ad fm (.inr (k, i, j)) :: rest)) := by
  obtain ⟨⟨hx, hb, hml, hr, hlk⟩, hown, hts, hK, hA, hinj, ks, hfm, hscr⟩ := C
  have hc := hq.cid (aty_lt (k := k) (by omega))
  obtain ⟨i0, hi, hws⟩ := ws_get (ad := ad) (cy := cy) (M := M) hc
  rw [cell_arr (by show aty k < 3; omega)] at hws
  rw [enc_cid hc]
  exact va_iald (D := D) hx hb hK hP i0 0 hws (by show _ = some (cy (aty k), FieldType.int); rw [ht]; rfl) hin hd kk
theorem snd_zald (C : Cx p s m args meth c D ad cy fm A V90 G0 o b nL ret) (hd : decode b pc = .ok (.baload, 1)) (ht : aty k = 1) (hq : vAV V90 (.inr (k, i, j))) {x : Int32} (hin : vp_in x (alen k))
    (hP : va_P D clAll (wsM ad cy M) H) (kk : W p l e R s m args below meth c H locs cells slots Z (F0 m (pc + 1) ls (.int (M k i j x.toNatClampNeg) :: rest))) :
    W p l e R s m args below meth c H locs cells slots Z (F0 m pc ls (.int x :: encA ad fm (.inr (k, i, j)) :: rest)) := by
  obtain ⟨⟨hx, hb, hml, hr, hlk⟩, hown, hts, hK, hA, hinj, ks, hfm, hscr⟩ := C
  have hc := hq.cid (aty_lt (k := k) (by omega))
  obtain ⟨i0, hi, hws⟩ := ws_get (ad := ad) (cy := cy) (M := M) hc
  rw [cell_arr (by show aty k < 3; omega)] at hws
  rw [enc_cid hc]
  exact va_zald (D := D) hx hb hK hP i0 1 hws (by show _ = some (cy (aty k), FieldType.boolean); rw [ht]; rfl) hin hd kk
theorem snd_cald (C : Cx p s m args meth c D ad cy fm A V90 G0 o b nL ret) (hd : decode b pc = .ok (.caload, 1)) (ht : aty k = 2) (hq : vAV V90 (.inr (k, i, j))) {x : Int32} (hin : vp_in x (alen k))
    (hP : va_P D clAll (wsM ad cy M) H) (kk : W p l e R s m args below meth c H locs cells slots Z (F0 m (pc + 1) ls (.int (M k i j x.toNatClampNeg) :: rest))) :
    W p l e R s m args below meth c H locs cells slots Z (F0 m pc ls (.int x :: encA ad fm (.inr (k, i, j)) :: rest)) := by
  obtain ⟨⟨hx, hb, hml, hr, hlk⟩, hown, hts, hK, hA, hinj, ks, hfm, hscr⟩ := C
  have hc := hq.cid (aty_lt (k := k) (by omega))
  obtain ⟨i0, hi, hws⟩ := ws_get (ad := ad) (cy := cy) (M := M) hc
  rw [cell_arr (by show aty k < 3; omega)] at hws
  rw [enc_cid hc]
  exact va_cald (D := D) hx hb hK hP i0 2 hws (by show _ = some (cy (aty k), FieldType.char); rw [ht]; rfl) hin hd kk
theorem snd_iast (C : Cx p s m args meth c D ad cy fm A V90 G0 o b nL ret) (hd : decode b pc = .ok (.iastore, 1)) (ht : aty k = 0) (hq : vAV V90 (.inr (k, i, j))) {x z : Int32} (hin : vp_in x (alen k))
    (hP : va_P D clAll (wsM ad cy M) H) (hS : va_S A s.heap H locs) (kk : ∀ (H1 : Heap) (locs1 : List Loc), (k, i, j) ∈ cids → va_P D clAll (wsM ad cy (mu M k i j x.toNatClampNeg z)) H1 → va_S A s.heap H1 locs1 → W p l e R s m args below meth c H1 locs1 cells slots Z (F0 m (pc + 1) ls rest)) :
    W p l e R s m args below meth c H locs cells slots Z (F0 m pc ls (.int z :: .int x :: encA ad fm (.inr (k, i, j)) :: rest)) := by
  obtain ⟨⟨hx, hb, hml, hr, hlk⟩, hown, hts, hK, hA, hinj, ks, hfm, hscr⟩ := C
  have hc := hq.cid (aty_lt (k := k) (by omega))
  obtain ⟨i0, hi, hws⟩ := ws_get (ad := ad) (cy := cy) (M := M) hc
  rw [cell_arr (by show aty k < 3; omega)] at hws
  rw [enc_cid hc]
  refine va_iast (D := D) hx hb hK hP (ws_D hA hinj M) hS i0 0 hws (by show _ = some (cy (aty k), FieldType.int); rw [ht]; rfl) hin hd (fun H1 locs1 hP1 hD1 hS1 => ?_)
  refine kk H1 locs1 hc ?_ hS1
  have e3 := ws_set (ad := ad) (cy := cy) (M := M) (M' := mu M k i j x.toNatClampNeg z) hi (fun q' h1 h2 => cell_ne h1 h2)
  rw [cell_arr (by show aty k < 3; omega), mu_at] at e3
  rw [← e3]
  exact hP1
theorem snd_zast (C : Cx p s m args meth c D ad cy fm A V90 G0 o b nL ret) (hd : decode b pc = .ok (.bastore, 1)) (ht : aty k = 1) (hq : vAV V90 (.inr (k, i, j))) {x z : Int32} (hin : vp_in x (alen k)) (hz : z = 0 ∨ z = 1)
    (hP : va_P D clAll (wsM ad cy M) H) (hS : va_S A s.heap H locs) (kk : ∀ (H1 : Heap) (locs1 : List Loc), (k, i, j) ∈ cids → va_P D clAll (wsM ad cy (mu M k i j x.toNatClampNeg z)) H1 → va_S A s.heap H1 locs1 → W p l e R s m args below meth c H1 locs1 cells slots Z (F0 m (pc + 1) ls rest)) :
    W p l e R s m args below meth c H locs cells slots Z (F0 m pc ls (.int z :: .int x :: encA ad fm (.inr (k, i, j)) :: rest)) := by
  obtain ⟨⟨hx, hb, hml, hr, hlk⟩, hown, hts, hK, hA, hinj, ks, hfm, hscr⟩ := C
  have hc := hq.cid (aty_lt (k := k) (by omega))
  obtain ⟨i0, hi, hws⟩ := ws_get (ad := ad) (cy := cy) (M := M) hc
  rw [cell_arr (by show aty k < 3; omega)] at hws
  rw [enc_cid hc]
  refine va_zast (D := D) hx hb hK hP (ws_D hA hinj M) hS i0 1 hws (by show _ = some (cy (aty k), FieldType.boolean); rw [ht]; rfl) hin hd (fun H1 locs1 hP1 hD1 hS1 => ?_)
  refine kk H1 locs1 hc ?_ hS1
  have e3 := ws_set (ad := ad) (cy := cy) (M := M) (M' := mu M k i j x.toNatClampNeg z) hi (fun q' h1 h2 => cell_ne h1 h2)
  rw [cell_arr (by show aty k < 3; omega), mu_at] at e3
  rw [← e3]
  rw [show vp_nar .boolean z = z from by rcases hz with rfl | rfl <;> rfl] at hP1
  exact hP1
theorem snd_aald (C : Cx p s m args meth c D ad cy fm A V90 G0 o b nL ret) (hd : decode b pc = .ok (.aaload, 1)) (h3 : 3 ≤ aty k) (h7 : aty k ≤ 7) (hq : vAV V90 (.inr (k, i, j))) {x : Int32} (hin : vp_in x (alen k))
    (hP : va_P D clAll (wsM ad cy M) H) (kk : vAV V90 (.inr (aref k i x.toNatClampNeg)) → W p l e R s m args below meth c H locs cells slots Z (F0 m (pc + 1) ls (encA ad fm (.inr (aref k i x.toNatClampNeg)) :: rest))) :
    W p l e R s m args below meth c H locs cells slots Z (F0 m pc ls (.int x :: encA ad fm (.inr (k, i, j)) :: rest)) := by
  obtain ⟨⟨hx, hb, hml, hr, hlk⟩, hown, hts, hK, hA, hinj, ks, hfm, hscr⟩ := C
  have hc := hq.cid (aty_lt (k := k) (by omega))
  obtain ⟨i0, hi, hws⟩ := ws_get (ad := ad) (cy := cy) (M := M) hc
  rw [cell_refs h3 h7] at hws
  rw [enc_cid hc]
  have hlt : x.toNatClampNeg < alen k := Nat.not_le.mp fun q => hin (Or.inr q)
  have hr1 := cid_aref _ hc h3 _ hlt
  have h9 := kk (Or.inl hr1)
  rw [enc_cid hr1] at h9
  rcases (show aty k = 3 ∨ aty k = 4 ∨ aty k = 5 ∨ aty k = 6 ∨ aty k = 7 by omega) with h | h | h | h | h
  · exact va_aldq (D := D) (C := RX0) hx hb hK hP i0 3 hws (by show _ = some (cy (aty k), _); rw [h]; rfl) hin hd h9
  · exact va_aldq (D := D) (C := RX3) hx hb hK hP i0 4 hws (by show _ = some (cy (aty k), _); rw [h]; rfl) hin hd h9
  · exact va_aldq (D := D) (C := RX7) hx hb hK hP i0 5 hws (by show _ = some (cy (aty k), _); rw [h]; rfl) hin hd h9
  · exact va_aldq (D := D) (C := RX5) hx hb hK hP i0 6 hws (by show _ = some (cy (aty k), _); rw [h]; rfl) hin hd h9
  · exact va_aldq (D := D) (C := RX6) hx hb hK hP i0 7 hws (by show _ = some (cy (aty k), _); rw [h]; rfl) hin hd h9
theorem snd_alen (C : Cx p s m args meth c D ad cy fm A V90 G0 o b nL ret) (hd : decode b pc = .ok (.arraylength, 1)) (ht : aty k = 0) (hq : vAV V90 (.inr (k, i, j)))
    (hP : va_P D clAll (wsM ad cy M) H) (kk : W p l e R s m args below meth c H locs cells slots Z (F0 m (pc + 1) ls (.int (nI (alen k)) :: rest))) :
    W p l e R s m args below meth c H locs cells slots Z (F0 m pc ls (encA ad fm (.inr (k, i, j)) :: rest)) := by
  obtain ⟨⟨hx, hb, hml, hr, hlk⟩, hown, hts, hK, hA, hinj, ks, hfm, hscr⟩ := C
  have hc := hq.cid (aty_lt (k := k) (by omega))
  obtain ⟨i0, hi, hws⟩ := ws_get (ad := ad) (cy := cy) (M := M) hc
  rw [cell_arr (by show aty k < 3; omega)] at hws
  rw [enc_cid hc]
  exact va_alen (D := D) hx hb hK hP i0 0 hws (by show _ = some (cy (aty k), FieldType.int); rw [ht]; rfl) rfl hd kk
end SND4
