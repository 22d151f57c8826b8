-- 12.sound7: the step, and the methods
section SND7
variable {p : Program} {l : Launch} {e : Env} {R : Room} {s : State} {m : MethodId} {args : Array Value} {below : List Frame} {meth : Method} {c : Code} {D : va_G} {ad : Id3 → Nat} {cy : Nat → ClassId} {fm : Value} {A : Nat → Prop} {V90 : Prop} {G0 : Mem} {o : Nat} {b : ByteArray} {nL : Nat} {ret : Option FieldType} {cells slots : Nat} {Z : State → Prop} {d : Nat}
variable {M : Mem} {pc : Nat} {st : List AV} {Γ : GA} {lv : LV} {Q : PQ}
theorem mu_hi {k i j t : Nat} {x : Int32} (h : (k, i, j) ∈ cids) (hg : ∀ k, 83 ≤ k → M k = G0 k) : ∀ k', 83 ≤ k' → mu M k i j t x k' = G0 k' := mr_hi (q := (k, i, j)) h hg
set_option maxHeartbeats 4000000 in
theorem step_sound (C : Cx p s m args meth c D ad cy fm A V90 G0 o b nL ret) (HC : HCl l D ad cy fm d Γ) (hRf : d + 1 ≤ R.frames) (hRl : 40 * (d + 1) ≤ R.locals) (hcs : cells ≤ R.cells ∧ slots ≤ R.slots)
    (HR : HRt p l e R s m args below meth c D ad cy fm A V90 G0 b ret cells slots Z Q) {en : Ent} (hok : okE o b pc en = true)
    (h : step Γ ret en pc lv st M (SW p l e R s m args below meth c D ad cy fm A V90 G0 nL cells slots Z) Q) : SW p l e R s m args below meth c D ad cy fm A V90 G0 nL cells slots Z pc lv st M := by
  have CC := C
  obtain ⟨⟨hx, hb, hml, hr, hlk⟩, hown, hts, hK, hA, hinj, ks, hfm, hscr⟩ := C
  obtain ⟨⟨ins, n⟩, a, bb, x0, tb⟩ := en
  simp only [okE, Bool.and_eq_true, decide_eq_true_eq] at hok
  obtain ⟨hd, hok⟩ := hok
  cases ins
  case iconst i =>
    simp only [Bool.and_eq_true, beq_iff_eq, decide_eq_true_eq] at hok
    obtain ⟨rfl, hv⟩ := hok
    intro ls H locs hlen hlv hvv hvs hg hP hS
    exact lv_iconst hx hb hd hv (h ls H locs hlen hlv hvv (vcons trivial hvs) hg hP hS)
  case bipush i =>
    simp only [Bool.and_eq_true, beq_iff_eq, decide_eq_true_eq] at hok
    obtain ⟨rfl, hv⟩ := hok
    intro ls H locs hlen hlv hvv hvs hg hP hS
    exact lv_bipush hx hb hd hv (h ls H locs hlen hlv hvv (vcons trivial hvs) hg hP hS)
  case sipush i =>
    simp only [Bool.and_eq_true, beq_iff_eq, decide_eq_true_eq] at hok
    obtain ⟨rfl, hv⟩ := hok
    intro ls H locs hlen hlv hvv hvs hg hP hS
    exact lv_sipush hx hb hd hv (h ls H locs hlen hlv hvv (vcons trivial hvs) hg hP hS)
  case ldc i =>
    match a, hok, h with
    | 0, hok, h =>
      simp only [Bool.and_eq_true, beq_iff_eq, decide_eq_true_eq] at hok
      obtain ⟨rfl, hv⟩ := hok
      obtain ⟨q, hm, hq'⟩ := any_at hv
      obtain ⟨q1, q2, q3, q4⟩ := q
      simp only [Bool.and_eq_true, beq_iff_eq, decide_eq_true_eq] at hq'
      obtain ⟨⟨rfl, rfl⟩, rfl⟩ := hq'
      intro ls H locs hlen hlv hvv hvs hg hP hS
      exact lv_ldc hx hb hown (hts _ (aw2 (cst_ok _ hm))) hd (h ls H locs hlen hlv hvv (vcons trivial hvs) hg hP hS)
    | 1, hok, h =>
      simp only [Bool.and_eq_true, beq_iff_eq, decide_eq_true_eq] at hok
      obtain ⟨rfl, rfl, hv⟩ := hok
      intro ls H locs hlen hlv hvv hvs hg hP hS
      have hb11 : bb < 11 := (List.getElem?_eq_some_iff.mp hv).1
      have h1 := ks.2.1 bb hb11
      rw [List.getD_eq_getElem?_getD, hv] at h1
      exact va_ldcS hx hb hown h1 hd (h ls H locs hlen hlv hvv (vcons (Or.inr (Or.inl ⟨rfl, hb11, rfl⟩)) hvs) hg hP hS)
    | a + 2, hok, h => simp at hok
  case ldc_w i =>
    simp only [Bool.and_eq_true, beq_iff_eq, decide_eq_true_eq] at hok
    obtain ⟨rfl, hv⟩ := hok
    obtain ⟨q, hm, hq'⟩ := any_at hv
    obtain ⟨q1, q2, q3, q4⟩ := q
    simp only [Bool.and_eq_true, beq_iff_eq, decide_eq_true_eq] at hq'
    obtain ⟨⟨rfl, rfl⟩, rfl⟩ := hq'
    intro ls H locs hlen hlv hvv hvs hg hP hS
    exact lv_ldcw hx hb hown (hts _ (aw2 (cst_ok _ hm))) hd (h ls H locs hlen hlv hvv (vcons trivial hvs) hg hP hS)
  case iload_n k =>
    simp only [Bool.and_eq_true, beq_iff_eq, decide_eq_true_eq] at hok
    obtain ⟨rfl, hv⟩ := hok
    obtain ⟨x, h1, h⟩ := locI_inv h
    intro ls H locs hlen hlv hvv hvs hg hP hS
    exact lv_iload_n hx hb hd hv (hlv.2.2 _ _ h1) (h ls H locs hlen hlv hvv (vcons trivial hvs) hg hP hS)
  case iload k =>
    simp only [Bool.and_eq_true, beq_iff_eq, decide_eq_true_eq] at hok
    obtain ⟨rfl, rfl⟩ := hok
    obtain ⟨x, h1, h⟩ := locI_inv h
    intro ls H locs hlen hlv hvv hvs hg hP hS
    exact lv_iload hx hb hd (hlv.2.2 _ _ h1) (h ls H locs hlen hlv hvv (vcons trivial hvs) hg hP hS)
  case aload_n k =>
    simp only [Bool.and_eq_true, beq_iff_eq, decide_eq_true_eq] at hok
    obtain ⟨rfl, hv⟩ := hok
    obtain ⟨q, h1, h⟩ := locR_inv h
    obtain ⟨h2, h⟩ := chk_iff.mp h
    intro ls H locs hlen hlv hvv hvs hg hP hS
    have h3 := h ls H locs hlen hlv hvv (vcons (hvv _ (List.mem_of_getElem? h1)) hvs) hg hP hS
    have h4 := hlv.2.2 _ _ h1
    rw [List.map_cons, enc_ref h2] at h3
    rw [enc_ref h2] at h4
    exact lv_aload_n hx hb hd hv h4 h3
  case aload k =>
    simp only [Bool.and_eq_true, beq_iff_eq, decide_eq_true_eq] at hok
    obtain ⟨rfl, rfl⟩ := hok
    obtain ⟨q, h1, h⟩ := locR_inv h
    obtain ⟨h2, h⟩ := chk_iff.mp h
    intro ls H locs hlen hlv hvv hvs hg hP hS
    have h3 := h ls H locs hlen hlv hvv (vcons (hvv _ (List.mem_of_getElem? h1)) hvs) hg hP hS
    have h4 := hlv.2.2 _ _ h1
    rw [List.map_cons, enc_ref h2] at h3
    rw [enc_ref h2] at h4
    exact lv_aload hx hb hd h4 h3
  case istore_n k =>
    simp only [Bool.and_eq_true, beq_iff_eq, decide_eq_true_eq] at hok
    obtain ⟨rfl, hv⟩ := hok
    obtain ⟨x, r, rfl, h⟩ := topI_inv h
    obtain ⟨hin, h⟩ := chk_iff.mp h
    intro ls H locs hlen hlv hvv hvs hg hP hS
    exact lv_istore_n hx hb hd hv hlv.has hin rfl (fun ls' hl' => h ls' H locs (by rw [List.length_set]; exact hlen) (lvH.upd (v := .inl x) hfm (fun _ z => z) hl') (vset hvv trivial) (vtail hvs) hg hP hS)
  case istore k =>
    simp only [Bool.and_eq_true, beq_iff_eq, decide_eq_true_eq] at hok
    obtain ⟨rfl, rfl⟩ := hok
    obtain ⟨x, r, rfl, h⟩ := topI_inv h
    obtain ⟨hin, h⟩ := chk_iff.mp h
    intro ls H locs hlen hlv hvv hvs hg hP hS
    exact lv_istore hx hb hd hlv.has hin rfl (fun ls' hl' => h ls' H locs (by rw [List.length_set]; exact hlen) (lvH.upd (v := .inl x) hfm (fun _ z => z) hl') (vset hvv trivial) (vtail hvs) hg hP hS)
  case astore_n k =>
    simp only [Bool.and_eq_true, beq_iff_eq, decide_eq_true_eq] at hok
    obtain ⟨rfl, hv⟩ := hok
    obtain ⟨k, i, j, r, rfl, h⟩ := topR_inv h
    obtain ⟨⟨h82, hin⟩, h⟩ := chk_iff.mp h
    intro ls H locs hlen hlv hvv hvs hg hP hS
    rw [List.map_cons, enc_ref h82]
    exact lv_astore_n hx hb hd hv hlv.has hin rfl (fun ls' hl' => h ls' H locs (by rw [List.length_set]; exact hlen) (lvH.upd (v := .inr (k, i, j)) hfm (fun _ z => z) (by rw [enc_ref h82]; exact hl')) (vset hvv (vhead hvs)) (vtail hvs) hg hP hS)
  case astore k =>
    simp only [Bool.and_eq_true, beq_iff_eq, decide_eq_true_eq] at hok
    obtain ⟨rfl, rfl⟩ := hok
    obtain ⟨k, i, j, r, rfl, h⟩ := topR_inv h
    obtain ⟨⟨h82, hin⟩, h⟩ := chk_iff.mp h
    intro ls H locs hlen hlv hvv hvs hg hP hS
    rw [List.map_cons, enc_ref h82]
    exact lv_astore hx hb hd hlv.has hin rfl (fun ls' hl' => h ls' H locs (by rw [List.length_set]; exact hlen) (lvH.upd (v := .inr (k, i, j)) hfm (fun _ z => z) (by rw [enc_ref h82]; exact hl')) (vset hvv (vhead hvs)) (vtail hvs) hg hP hS)
  case iinc k i =>
    simp only [Bool.and_eq_true, beq_iff_eq, decide_eq_true_eq] at hok
    obtain ⟨⟨rfl, rfl⟩, hv⟩ := hok
    obtain ⟨x, h1, h⟩ := locI_inv h
    intro ls H locs hlen hlv hvv hvs hg hP hS
    have hin : k < lv.length := (List.getElem?_eq_some_iff.mp h1).1
    refine lv_iinc (k := 0) (lv := (k, .int x) :: asc ad fm lv) (v := x + x0) hx hb hd ⟨hlv.has.1, hlv.has.2.1, List.forall_mem_cons.mpr ⟨hlv.2.2 _ _ h1, hlv.has.2.2⟩⟩ rfl (by rw [hv]) hin rfl (fun ls' hl' => h ls' H locs (by rw [List.length_set]; exact hlen) (lvH.upd (v := .inl (x + x0)) (L := (k, .int x) :: asc ad fm lv) hfm (fun _ z => List.mem_cons_of_mem _ z) hl') (vset hvv trivial) hvs hg hP hS)
  case iadd =>
    obtain rfl : n = 1 := by simpa using hok
    obtain ⟨x, y, r, rfl, h⟩ := topII_inv h
    intro ls H locs hlen hlv hvv hvs hg hP hS
    exact lv_iadd hx hb hd (h ls H locs hlen hlv hvv (vcons trivial (vtail (vtail hvs))) hg hP hS)
  case isub =>
    obtain rfl : n = 1 := by simpa using hok
    obtain ⟨x, y, r, rfl, h⟩ := topII_inv h
    intro ls H locs hlen hlv hvv hvs hg hP hS
    exact lv_isub hx hb hd (h ls H locs hlen hlv hvv (vcons trivial (vtail (vtail hvs))) hg hP hS)
  case imul =>
    obtain rfl : n = 1 := by simpa using hok
    obtain ⟨x, y, r, rfl, h⟩ := topII_inv h
    intro ls H locs hlen hlv hvv hvs hg hP hS
    exact lv_imul hx hb hd (h ls H locs hlen hlv hvv (vcons trivial (vtail (vtail hvs))) hg hP hS)
  case iand =>
    obtain rfl : n = 1 := by simpa using hok
    obtain ⟨x, y, r, rfl, h⟩ := topII_inv h
    intro ls H locs hlen hlv hvv hvs hg hP hS
    exact lv_iand hx hb hd (h ls H locs hlen hlv hvv (vcons trivial (vtail (vtail hvs))) hg hP hS)
  case ior =>
    obtain rfl : n = 1 := by simpa using hok
    obtain ⟨x, y, r, rfl, h⟩ := topII_inv h
    intro ls H locs hlen hlv hvv hvs hg hP hS
    exact lv_ior hx hb hd (h ls H locs hlen hlv hvv (vcons trivial (vtail (vtail hvs))) hg hP hS)
  case ishl =>
    obtain rfl : n = 1 := by simpa using hok
    obtain ⟨x, y, r, rfl, h⟩ := topII_inv h
    intro ls H locs hlen hlv hvv hvs hg hP hS
    exact lv_ishl hx hb hd (h ls H locs hlen hlv hvv (vcons trivial (vtail (vtail hvs))) hg hP hS)
  case ishr =>
    obtain rfl : n = 1 := by simpa using hok
    obtain ⟨x, y, r, rfl, h⟩ := topII_inv h
    intro ls H locs hlen hlv hvv hvs hg hP hS
    exact lv_ishr hx hb hd (h ls H locs hlen hlv hvv (vcons trivial (vtail (vtail hvs))) hg hP hS)
  case idiv =>
    obtain rfl : n = 1 := by simpa using hok
    obtain ⟨x, y, r, rfl, h⟩ := topII_inv h
    intro ls H locs hlen hlv hvv hvs hg hP hS
    exact lv_idiv hx hb hd h.1 (h.2 ls H locs hlen hlv hvv (vcons trivial (vtail (vtail hvs))) hg hP hS)
  case irem =>
    obtain rfl : n = 1 := by simpa using hok
    obtain ⟨x, y, r, rfl, h⟩ := topII_inv h
    intro ls H locs hlen hlv hvv hvs hg hP hS
    exact lv_irem hx hb hd h.1 (h.2 ls H locs hlen hlv hvv (vcons trivial (vtail (vtail hvs))) hg hP hS)
  case iushr =>
    obtain rfl : n = 1 := by simpa using hok
    obtain ⟨x, y, r, rfl, h⟩ := topII_inv h
    intro ls H locs hlen hlv hvv hvs hg hP hS
    exact lv_iushr hx hb hd rfl (h ls H locs hlen hlv hvv (vcons trivial (vtail (vtail hvs))) hg hP hS)
  case ineg =>
    obtain rfl : n = 1 := by simpa using hok
    obtain ⟨x, r, rfl, h⟩ := topI_inv h
    intro ls H locs hlen hlv hvv hvs hg hP hS
    exact lv_ineg hx hb hd (h ls H locs hlen hlv hvv (vcons trivial (vtail hvs)) hg hP hS)
  case i2b =>
    obtain rfl : n = 1 := by simpa using hok
    obtain ⟨x, r, rfl, h⟩ := topI_inv h
    intro ls H locs hlen hlv hvv hvs hg hP hS
    exact lv_i2b hx hb hd rfl (h ls H locs hlen hlv hvv (vcons trivial (vtail hvs)) hg hP hS)
  case i2s =>
    obtain rfl : n = 1 := by simpa using hok
    obtain ⟨x, r, rfl, h⟩ := topI_inv h
    intro ls H locs hlen hlv hvv hvs hg hP hS
    exact lv_i2s hx hb hd rfl (h ls H locs hlen hlv hvv (vcons trivial (vtail hvs)) hg hP hS)
  case i2c =>
    obtain rfl : n = 1 := by simpa using hok
    obtain ⟨x, r, rfl, h⟩ := topI_inv h
    intro ls H locs hlen hlv hvv hvs hg hP hS
    exact lv_i2c hx hb hd rfl (h ls H locs hlen hlv hvv (vcons trivial (vtail hvs)) hg hP hS)
  case dup =>
    obtain rfl : n = 1 := by simpa using hok
    obtain ⟨v, r, rfl, h⟩ := topV_inv h
    intro ls H locs hlen hlv hvv hvs hg hP hS
    exact lv_dup hx hb hd (enc_cat hfm v) (h ls H locs hlen hlv hvv (vcons (vhead hvs) hvs) hg hP hS)
  case dup2 =>
    obtain rfl : n = 1 := by simpa using hok
    obtain ⟨v, u, r, rfl, h⟩ := topVV_inv h
    intro ls H locs hlen hlv hvv hvs hg hP hS
    exact lv_dup2_11 hx hb hd (enc_cat hfm v) (enc_cat hfm u) (h ls H locs hlen hlv hvv (vcons (vhead hvs) (vcons (vhead (vtail hvs)) hvs)) hg hP hS)
  case pop =>
    obtain rfl : n = 1 := by simpa using hok
    obtain ⟨v, r, rfl, h⟩ := topV_inv h
    intro ls H locs hlen hlv hvv hvs hg hP hS
    exact lv_pop hx hb hd (enc_cat hfm v) (h ls H locs hlen hlv hvv (vtail hvs) hg hP hS)
  case goto off =>
    simp only [Bool.and_eq_true, beq_iff_eq, decide_eq_true_eq] at hok
    obtain ⟨rfl, hv⟩ := hok
    intro ls H locs hlen hlv hvv hvs hg hP hS
    exact lv_goto hx hb hd hv (h ls H locs hlen hlv hvv hvs hg hP hS)
  case ifCond cnd off =>
    simp only [Bool.and_eq_true, beq_iff_eq, decide_eq_true_eq] at hok
    obtain ⟨rfl, hv⟩ := hok
    obtain ⟨x, r, rfl, h⟩ := topI_inv h
    intro ls H locs hlen hlv hvv hvs hg hP hS
    cases cnd
    · exact lv_if_eq hx hb hd hv (fun z => h.1 z ls H locs hlen hlv hvv (vtail hvs) hg hP hS) (fun z => h.2 z ls H locs hlen hlv hvv (vtail hvs) hg hP hS)
    · exact lv_if_ne hx hb hd hv (fun z => h.1 z ls H locs hlen hlv hvv (vtail hvs) hg hP hS) (fun z => h.2 z ls H locs hlen hlv hvv (vtail hvs) hg hP hS)
    · exact lv_if_lt hx hb hd hv (fun z => h.1 z ls H locs hlen hlv hvv (vtail hvs) hg hP hS) (fun z => h.2 z ls H locs hlen hlv hvv (vtail hvs) hg hP hS)
    · exact lv_if_ge hx hb hd hv (fun z => h.1 z ls H locs hlen hlv hvv (vtail hvs) hg hP hS) (fun z => h.2 z ls H locs hlen hlv hvv (vtail hvs) hg hP hS)
    · exact lv_if_gt hx hb hd hv (fun z => h.1 z ls H locs hlen hlv hvv (vtail hvs) hg hP hS) (fun z => h.2 z ls H locs hlen hlv hvv (vtail hvs) hg hP hS)
    · exact lv_if_le hx hb hd hv (fun z => h.1 z ls H locs hlen hlv hvv (vtail hvs) hg hP hS) (fun z => h.2 z ls H locs hlen hlv hvv (vtail hvs) hg hP hS)
  case if_icmp cnd off =>
    simp only [Bool.and_eq_true, beq_iff_eq, decide_eq_true_eq] at hok
    obtain ⟨rfl, hv⟩ := hok
    obtain ⟨x, y, r, rfl, h⟩ := topII_inv h
    intro ls H locs hlen hlv hvv hvs hg hP hS
    cases cnd
    · exact lv_icmp_eq hx hb hd hv (fun z => h.1 z ls H locs hlen hlv hvv (vtail (vtail hvs)) hg hP hS) (fun z => h.2 z ls H locs hlen hlv hvv (vtail (vtail hvs)) hg hP hS)
    · exact lv_icmp_ne hx hb hd hv (fun z => h.1 z ls H locs hlen hlv hvv (vtail (vtail hvs)) hg hP hS) (fun z => h.2 z ls H locs hlen hlv hvv (vtail (vtail hvs)) hg hP hS)
    · exact lv_icmp_lt hx hb hd hv (fun z => h.1 z ls H locs hlen hlv hvv (vtail (vtail hvs)) hg hP hS) (fun z => h.2 z ls H locs hlen hlv hvv (vtail (vtail hvs)) hg hP hS)
    · exact lv_icmp_ge hx hb hd hv (fun z => h.1 z ls H locs hlen hlv hvv (vtail (vtail hvs)) hg hP hS) (fun z => h.2 z ls H locs hlen hlv hvv (vtail (vtail hvs)) hg hP hS)
    · exact lv_icmp_gt hx hb hd hv (fun z => h.1 z ls H locs hlen hlv hvv (vtail (vtail hvs)) hg hP hS) (fun z => h.2 z ls H locs hlen hlv hvv (vtail (vtail hvs)) hg hP hS)
    · exact lv_icmp_le hx hb hd hv (fun z => h.1 z ls H locs hlen hlv hvv (vtail (vtail hvs)) hg hP hS) (fun z => h.2 z ls H locs hlen hlv hvv (vtail (vtail hvs)) hg hP hS)
  case tableswitch df lo hi offs =>
    simp only [Bool.and_eq_true, beq_iff_eq, decide_eq_true_eq] at hok
    obtain ⟨⟨hdf, hhi⟩, hsw⟩ := hok
    obtain ⟨x, r, rfl, h⟩ := topI_inv h
    intro ls H locs hlen hlv hvv hvs hg hP hS
    have hat := okSw_at (pc := pc) (lo := lo) (offs := offs) tb 0 hsw
    rcases swP_inv h with ⟨j, t, h1, h2⟩ | ⟨h1, h2⟩
    · obtain ⟨e1, off, e2, e3⟩ := hat j x t h1
      have hj : j < tb.length := (List.getElem?_eq_some_iff.mp h1).1
      exact lv_tableIn hx hb hd (off := off) (by omega) (by omega) (by rw [e1, show (lo + ((0 + j : Nat) : Int) - lo).toNat = 0 + j by omega]; exact e2) e3 (h2 ls H locs hlen hlv hvv (vtail hvs) hg hP hS)
    · refine lv_tableOut hx hb hd ?_ hdf (h2 ls H locs hlen hlv hvv (vtail hvs) hg hP hS)
      by_cases hlo : x.toInt < lo
      · exact Or.inl hlo
      · right
        by_cases hh : hi < x.toInt
        · exact hh
        · exfalso
          have hj : (x.toInt - lo).toNat < tb.length := by omega
          cases hvt : tb[(x.toInt - lo).toNat] with
          | mk v t =>
            have e0 : tb[(x.toInt - lo).toNat]? = some (v, t) := by rw [List.getElem?_eq_getElem hj, hvt]
            obtain ⟨e1, -⟩ := hat _ v t e0
            exact h1 _ v t e0 (Int32.toInt_inj.mp (by rw [e1]; omega))
  case lookupswitch df ps =>
    simp only [Bool.and_eq_true, beq_iff_eq, decide_eq_true_eq] at hok
    obtain ⟨⟨hdf, hsrt⟩, hlk2⟩ := hok
    obtain ⟨x, r, rfl, h⟩ := topI_inv h
    intro ls H locs hlen hlv hvv hvs hg hP hS
    obtain ⟨off, t, e1, e2, e3⟩ := okLk_sw hdf ps.toList tb hlk2 h
    exact lv_lookup hx hb hd hsrt e1 e2 (e3 ls H locs hlen hlv hvv (vtail hvs) hg hP hS)
  case getfield i0 =>
    simp only [Bool.and_eq_true, Bool.or_eq_true, beq_iff_eq, decide_eq_true_eq] at hok
    obtain ⟨rfl, hok⟩ := hok
    obtain ⟨k, i, j, r, rfl, h⟩ := topR_inv h
    change getP M k i j a bb fun v => SW p l e R s m args below meth c D ad cy fm A V90 G0 nL cells slots Z (pc + 3) lv (v :: r) M at h
    intro ls H locs hlen hlv hvv hvs hg hP hS
    have hkk : ∀ v : AV, SW p l e R s m args below meth c D ad cy fm A V90 G0 nL cells slots Z (pc + 3) lv (v :: r) M → vAV V90 v → W p l e R s m args below meth c H locs cells slots Z (F0 m (pc + 3) ls (encA ad fm v :: r.map (encA ad fm))) := fun v z hv => z ls H locs hlen hlv hvv (vcons hv (vtail hvs)) hg hP hS
    rcases hok with hok | ⟨⟨rfl, hbb⟩, hok⟩
    · obtain ⟨q, hm, hq'⟩ := any_at hok
      simp only [Bool.and_eq_true, beq_iff_eq] at hq'
      have ha11 : a < 11 := by rw [← hq'.1.2]; exact (fld_lt q hm).1
      have h2 : kcls k = a ∧ (k = 11 ∧ bb = 6 → (M 11 0 0 6).toNatClampNeg < 16) ∧ SW p l e R s m args below meth c D ad cy fm A V90 G0 nL cells slots Z (pc + 3) lv (gfv M k i j bb :: r) M := by
        unfold getP at h
        split at h
        · omega
        · split at h
          · obtain ⟨rfl, h1, h2⟩ := chk_iff.mp h
            have e := cid_one _ ((vhead hvs).cid (by dsimp only; omega)) rfl
            cases e
            exact ⟨rfl, fun _ => h1, h2⟩
          · rename_i hne
            obtain ⟨h1, h2⟩ := chk_iff.mp h
            exact ⟨h1, fun z => absurd z.2 (fun z => hne (by rw [z])), h2⟩
        · obtain ⟨h1, h2⟩ := chk_iff.mp h
          rename_i hne4
          exact ⟨h1, fun z => by rw [z.1] at h1; exact absurd h1.symm (fun z => hne4 (by rw [z]; rfl)), h2⟩
      exact snd_get CC hd hok h2.1 (vhead hvs) h2.2.1 hP (fun hv => hkk _ h2.2.2 hv)
    · rcases hbb with rfl | rfl
      · obtain ⟨h1, h2⟩ := chk_iff.mp h
        exact snd_sval CC hd hok h1 (vhead hvs) hS (fun hv => hkk _ h2 hv)
      · obtain ⟨h1, h2⟩ := chk_iff.mp h
        exact snd_scod CC hd hok h1 (vhead hvs) hS (hkk (.inl 0) h2 trivial)
  case getstatic i0 =>
    simp only [Bool.and_eq_true, Bool.or_eq_true, beq_iff_eq, decide_eq_true_eq] at hok
    obtain ⟨⟨rfl, haa⟩, hok⟩ := hok
    intro ls H locs hlen hlv hvv hvs hg hP hS
    rcases haa with rfl | rfl
    · exact snd_st0 CC hd hok hS (h ls H locs hlen hlv hvv (vcons trivial hvs) hg hP hS)
    · exact snd_st1 CC hd hok hS (h ls H locs hlen hlv hvv (vcons (Or.inr (Or.inr (Or.inr (Or.inl rfl)))) hvs) hg hP hS)
  case putfield i0 =>
    simp only [Bool.and_eq_true, Bool.or_eq_true, beq_iff_eq, decide_eq_true_eq] at hok
    obtain ⟨rfl, hok⟩ := hok
    obtain ⟨v, k, i, j, r, rfl, h⟩ := topVR_inv h
    change putP M v k i j a bb fun M' => SW p l e R s m args below meth c D ad cy fm A V90 G0 nL cells slots Z (pc + 3) lv r M' at h
    intro ls H locs hlen hlv hvv hvs hg hP hS
    obtain ⟨q, hm, hq'⟩ := any_at hok
    have hft := fty_ok q hm
    have hlt := fld_lt q hm
    simp only [Bool.and_eq_true, beq_iff_eq] at hq'
    rw [hq'.1.2, hq'.2] at hft
    unfold putP at h
    split at h
    · rename_i z hf _
      obtain ⟨h1, h2⟩ := chk_iff.mp h
      refine snd_put0 (x := z) CC hd hok h1 (vhead (vtail hvs)) (hft.1 hf).1 (hft.1 hf).2 rfl rfl (fun hc hN => ?_) hP hS (fun H1 locs1 hc hP1 hS1 => h2 ls H1 locs1 hlen hlv hvv (vtail (vtail hvs)) (mu_hi hc hg) hP1 hS1)
      rw [gfv_isI hc (by rw [h1, ← hq'.1.2]; exact hlt.1) hN (by rw [h1, hf]; omega), mu_at, upd_at]
      rfl
    · rename_i z hf _
      obtain ⟨h1, hz, h2⟩ := chk_iff.mp h
      refine snd_put0 (x := z) CC hd hok h1 (vhead (vtail hvs)) (hft.2.1 hf).1 (hft.2.1 hf).2 (by rcases hz with rfl | rfl <;> rfl) (by rcases hz with rfl | rfl <;> rfl) (fun hc hN => ?_) hP hS (fun H1 locs1 hc hP1 hS1 => h2 ls H1 locs1 hlen hlv hvv (vtail (vtail hvs)) (mu_hi hc hg) hP1 hS1)
      rw [gfv_isI hc (by rw [h1, ← hq'.1.2]; exact hlt.1) hN (by rw [h1, hf]; omega), mu_at, upd_at]
      rfl
    · rename_i q3 hf _
      obtain ⟨⟨h1, h9, h0⟩, h2⟩ := chk_iff.mp h
      obtain ⟨k3, t, j3⟩ := q3
      dsimp only at h9 h0
      subst h9
      subst h0
      have hc3 := (vhead hvs).cid (by dsimp only; omega)
      have ht16 := cid_text _ hc3 rfl
      rw [List.map_cons, enc_cid hc3]
      obtain ⟨f1, f2, f3, f4⟩ := hft.2.2 hf
      refine snd_put0 (x := nI t) (v := .ref (ad (9, t, 0))) CC hd hok h1 (vhead (vtail hvs)) f3 f4 rfl rfl (fun hc hN => ?_) hP hS (fun H1 locs1 hc hP1 hS1 => h2 ls H1 locs1 hlen hlv hvv (vtail (vtail hvs)) (mu_hi hc hg) hP1 hS1)
      subst f1
      subst f2
      have hk11 : k = 11 := by
        unfold kcls at h1
        split at h1 <;> first | rfl | exact absurd h1 (by decide)
      subst hk11
      have e := cid_one _ hc rfl
      cases e
      show _ = encA ad .null (.inr (9, (mu M 11 0 0 6 (nI t) 11 0 0 6).toNatClampNeg, 0))
      rw [mu_at, upd_at, nI_clamp (by dsimp only at ht16; omega), enc_cid hc3]
    · exact h.elim
  case iaload =>
    obtain rfl : n = 1 := by simpa using hok
    obtain ⟨x, k, i, j, r, rfl, h⟩ := topIR_inv h
    intro ls H locs hlen hlv hvv hvs hg hP hS
    change ialdP M x k i j fun v => SW p l e R s m args below meth c D ad cy fm A V90 G0 nL cells slots Z (pc + 1) lv (.inl v :: r) M at h
    unfold ialdP at h
    split at h
    · exact snd_scr CC hd (vhead (vtail hvs)) hg h.1 hS (h.2 ls H locs hlen hlv hvv (vcons trivial (vtail (vtail hvs))) hg hP hS)
    · obtain ⟨h1, h2, h3⟩ := chk_iff.mp h
      exact snd_iald CC hd h1 (vhead (vtail hvs)) h2 hP (h3 ls H locs hlen hlv hvv (vcons trivial (vtail (vtail hvs))) hg hP hS)
  case iastore =>
    obtain rfl : n = 1 := by simpa using hok
    obtain ⟨z, x, k, i, j, r, rfl, h⟩ := topIIR_inv h
    intro ls H locs hlen hlv hvv hvs hg hP hS
    obtain ⟨h1, h2, h3⟩ := chk_iff.mp h
    exact snd_iast CC hd h1 (vhead (vtail (vtail hvs))) h2 hP hS (fun H1 locs1 hc hP1 hS1 => h3 ls H1 locs1 hlen hlv hvv (vtail (vtail (vtail hvs))) (mu_hi hc hg) hP1 hS1)
  case baload =>
    obtain rfl : n = 1 := by simpa using hok
    obtain ⟨x, k, i, j, r, rfl, h⟩ := topIR_inv h
    intro ls H locs hlen hlv hvv hvs hg hP hS
    change baldP M x k i j fun v => SW p l e R s m args below meth c D ad cy fm A V90 G0 nL cells slots Z (pc + 1) lv (.inl v :: r) M at h
    unfold baldP at h
    split at h
    · exact snd_sbal CC hd (vhead (vtail hvs)) h.1 hS (h.2 ls H locs hlen hlv hvv (vcons trivial (vtail (vtail hvs))) hg hP hS)
    · obtain ⟨h1, h2, h3⟩ := chk_iff.mp h
      exact snd_zald CC hd h1 (vhead (vtail hvs)) h2 hP (h3 ls H locs hlen hlv hvv (vcons trivial (vtail (vtail hvs))) hg hP hS)
  case bastore =>
    obtain rfl : n = 1 := by simpa using hok
    obtain ⟨z, x, k, i, j, r, rfl, h⟩ := topIIR_inv h
    intro ls H locs hlen hlv hvv hvs hg hP hS
    obtain ⟨h1, h2, hz, h3⟩ := chk_iff.mp h
    exact snd_zast CC hd h1 (vhead (vtail (vtail hvs))) h2 hz hP hS (fun H1 locs1 hc hP1 hS1 => h3 ls H1 locs1 hlen hlv hvv (vtail (vtail (vtail hvs))) (mu_hi hc hg) hP1 hS1)
  case caload =>
    obtain rfl : n = 1 := by simpa using hok
    obtain ⟨x, k, i, j, r, rfl, h⟩ := topIR_inv h
    intro ls H locs hlen hlv hvv hvs hg hP hS
    obtain ⟨h1, h2, h3⟩ := chk_iff.mp h
    exact snd_cald CC hd h1 (vhead (vtail hvs)) h2 hP (h3 ls H locs hlen hlv hvv (vcons trivial (vtail (vtail hvs))) hg hP hS)
  case aaload =>
    obtain rfl : n = 1 := by simpa using hok
    obtain ⟨x, k, i, j, r, rfl, h⟩ := topIR_inv h
    intro ls H locs hlen hlv hvv hvs hg hP hS
    obtain ⟨h1, h2, h3⟩ := chk_iff.mp h
    exact snd_aald CC hd h1.1 h1.2 (vhead (vtail hvs)) h2 hP (fun hv => h3 ls H locs hlen hlv hvv (vcons hv (vtail (vtail hvs))) hg hP hS)
  case arraylength =>
    obtain rfl : n = 1 := by simpa using hok
    obtain ⟨k, i, j, r, rfl, h⟩ := topR_inv h
    intro ls H locs hlen hlv hvv hvs hg hP hS
    change alenP M k i fun v => SW p l e R s m args below meth c D ad cy fm A V90 G0 nL cells slots Z (pc + 1) lv (.inl v :: r) M at h
    unfold alenP at h
    split at h
    · exact snd_slen CC hd (vhead hvs) hS (h ls H locs hlen hlv hvv (vcons trivial (vtail hvs)) hg hP hS)
    · exact snd_scl CC hd (vhead hvs) hg hS (h ls H locs hlen hlv hvv (vcons trivial (vtail hvs)) hg hP hS)
    · obtain ⟨h1, h2⟩ := chk_iff.mp h
      exact snd_alen CC hd h1 (vhead hvs) hP (h2 ls H locs hlen hlv hvv (vcons trivial (vtail hvs)) hg hP hS)
  case invokevirtual i0 =>
    simp only [Bool.and_eq_true, Bool.or_eq_true, beq_iff_eq, decide_eq_true_eq] at hok
    obtain ⟨⟨⟨⟨⟨rfl, hmid⟩, hl⟩, hn⟩, hk0⟩, rfl⟩ := hok
    exact snd_virt CC HC hRf hRl hcs hd hmid hl hn hk0 h
  case invokestatic i0 =>
    simp only [Bool.and_eq_true, Bool.or_eq_true, beq_iff_eq, decide_eq_true_eq] at hok
    obtain ⟨rfl, hok⟩ := hok
    rcases hok with (⟨rfl, hok⟩ | ⟨hbb, hok⟩) | hok
    · obtain ⟨md, q5, hlw⟩ := mth_at2 hok
      have h : copyP st M fun st' M' => SW p l e R s m args below meth c D ad cy fm A V90 G0 nL cells slots Z (pc + 3) lv st' M' := h
      obtain ⟨n, dp, c1, sp, c0, r, rfl, h⟩ := topCp_inv h
      obtain ⟨⟨ha0, ha1, hr8⟩, ⟨g1, g2, g3, g4, g5⟩, h⟩ := chk_iff.mp h
      intro ls H locs hlen hlv hvv hvs hg hP hS
      have hc0 := (vhead (vtail (vtail (vtail (vtail hvs))))).cid (aty_lt (k := c0.1) (by omega))
      have hc1 := (vhead (vtail (vtail hvs))).cid (aty_lt (k := c1.1) (by omega))
      obtain ⟨i0, hi0, hws0⟩ := ws_get (ad := ad) (cy := cy) (M := M) hc0
      obtain ⟨i1, hi1, hws1⟩ := ws_get (ad := ad) (cy := cy) (M := M) hc1
      rw [cell_arr (by omega)] at hws0
      rw [cell_arr (by omega)] at hws1
      have hws0' : (wsM ad cy M)[i0]? = some (ad c0, .inl (cy 0, alen c0.1, .inl (M c0.1 c0.2.1 c0.2.2))) := by rw [hws0, ha0]
      have hws1' : (wsM ad cy M)[i1]? = some (ad c1, .inl (cy 0, alen c1.1, .inl (M c1.1 c1.2.1 c1.2.2))) := by rw [hws1, ha1]
      show W p l e R s m args below meth c H locs cells slots Z (F0 m pc ls (.int n :: .int dp :: encA ad fm (.inr c1) :: .int sp :: encA ad fm (.inr c0) :: r.map (encA ad fm)))
      rw [enc_cid hc0, enc_cid hc1]
      have hnf : nativeFrameWords "java/lang/System" "arraycopy" 5 = 7 := by decide +kernel
      refine va_copyi (D := D) hx hb (by rw [hml, hlv.1, hlen]) hown (hts _ hlw) (hts _ nat_ok.1) (hts _ nat_ok.2.1) (hts _ nat_ok.2.2) hK hP (ws_D hA hinj M) hS i0 i1 0 0 hws0' hws1' rfl rfl rfl g1 g2 g3 g4 g5 (fun i _ => rfl) (by omega) (by rw [cat_sum hfm, hnf]; omega) hd (fun H1 locs1 hP1 hD1 hS1 => ?_)
      refine h ls H1 locs1 hlen hlv hvv (vtail (vtail (vtail (vtail (vtail hvs))))) (mr_hi hc1 hg) ?_ hS1
      have e3 := ws_set (ad := ad) (cy := cy) (M := M) (M' := mr M c1.1 c1.2.1 c1.2.2 (va_cpy (M c0.1 c0.2.1 c0.2.2) (M c1.1 c1.2.1 c1.2.2) sp.toNatClampNeg dp.toNatClampNeg n.toNatClampNeg)) hi1 (fun q' h1 h2 => cell_ne h1 h2)
      rw [cell_arr (by omega), mr_same, ha1] at e3
      rw [← e3]
      exact hP1
    · obtain ⟨md, q5, hlw⟩ := mth_at2 hok
      rcases hbb with (rfl | rfl) | rfl
      · have h : topI st fun x r => chk (r.length ≤ 8) (SW p l e R s m args below meth c D ad cy fm A V90 G0 nL cells slots Z (pc + 3) lv (.inl (if 0 ≤ x then x else 0 - x) :: r) M) := h
        obtain ⟨x, r, rfl, h⟩ := topI_inv h
        obtain ⟨hr8, h⟩ := chk_iff.mp h
        intro ls H locs hlen hlv hvv hvs hg hP hS
        exact va_mabs hx hb (by rw [hml, hlv.1, hlen]) hown (hts _ hlw) (hts _ math_sabs) (hts _ math_ini) (hts _ math_cabs) (by omega) (by rw [cat_sum hfm]; omega) hcs.1 hcs.2 hd (h ls H locs hlen hlv hvv (vcons trivial (vtail hvs)) hg hP hS)
      · have h : topII st fun x y r => chk (r.length ≤ 8) (SW p l e R s m args below meth c D ad cy fm A V90 G0 nL cells slots Z (pc + 3) lv (.inl (if x < y then y else x) :: r) M) := h
        obtain ⟨x, y, r, rfl, h⟩ := topII_inv h
        obtain ⟨hr8, h⟩ := chk_iff.mp h
        intro ls H locs hlen hlv hvv hvs hg hP hS
        exact va_mmax hx hb (by rw [hml, hlv.1, hlen]) hown (hts _ hlw) (hts _ math_smax) (hts _ math_ini) (hts _ math_cmax) (by omega) (by rw [cat_sum hfm]; omega) hcs.1 hcs.2 hd (h ls H locs hlen hlv hvv (vcons trivial (vtail (vtail hvs))) hg hP hS)
      · have h : topII st fun x y r => chk (r.length ≤ 8) (SW p l e R s m args below meth c D ad cy fm A V90 G0 nL cells slots Z (pc + 3) lv (.inl (if y < x then y else x) :: r) M) := h
        obtain ⟨x, y, r, rfl, h⟩ := topII_inv h
        obtain ⟨hr8, h⟩ := chk_iff.mp h
        intro ls H locs hlen hlv hvv hvs hg hP hS
        exact va_mmin hx hb (by rw [hml, hlv.1, hlen]) hown (hts _ hlw) (hts _ math_smin) (hts _ math_ini) (hts _ math_cmin) (by omega) (by rw [cat_sum hfm]; omega) hcs.1 hcs.2 hd (h ls H locs hlen hlv hvv (vcons trivial (vtail (vtail hvs))) hg hP hS)
    · obtain ⟨⟨⟨⟨hb100, hmid⟩, hn⟩, hk1⟩, hl⟩ := hok
      have h : statP Γ a bb st M fun st' M' => SW p l e R s m args below meth c D ad cy fm A V90 G0 nL cells slots Z (pc + 3) lv st' M' := h
      unfold statP at h
      split at h
      · omega
      · omega
      · omega
      · omega
      · exact snd_stat CC HC hRf hRl hcs hd hmid hl hn hk1 h
  case ireturn =>
    obtain rfl : n = 1 := by simpa using hok
    intro ls H locs hlen hlv hvv hvs hg hP hS
    have h : retI st fun v => retP ret v (Q (some (.inl v)) M) := h
    unfold retI at h
    split at h
    · exact HR.1 _ M pc ls H locs hd h hg hP hS
    · exact h.elim
  case areturn =>
    obtain rfl : n = 1 := by simpa using hok
    intro ls H locs hlen hlv hvv hvs hg hP hS
    have h : retA st fun k i j => chk (k = 80 ∧ isObj ret = true) <| Q (some (.inr (k, i, j))) M := h
    unfold retA at h
    split at h
    · obtain ⟨h1, h2⟩ := chk_iff.mp h
      exact HR.2.1 _ _ _ M pc ls H locs hd h1 (vhead hvs) h2 hg hP hS
    · exact h.elim
  case return_ =>
    obtain rfl : n = 1 := by simpa using hok
    intro ls H locs hlen hlv hvv hvs hg hP hS
    have h : retV st (chk (ret.isNone = true) (Q none M)) := h
    unfold retV at h
    split at h
    · obtain ⟨h1, h2⟩ := chk_iff.mp h
      exact HR.2.2 M pc ls H locs hd h1 h2 hg hP hS
    · exact h.elim
  all_goals exact h.elim
end SND7
