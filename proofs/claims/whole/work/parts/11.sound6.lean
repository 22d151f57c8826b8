-- 11.sound6: calls, and the step as a whole
theorem tk1 {α : Type} (tk : List α) (c : α) (r : List α) : (tk ++ c :: r).take (tk.length + 1) = tk ++ [c] := by
  induction tk with
  | nil => rfl
  | cons a t ih => show a :: ((t ++ c :: r).take (t.length + 1)) = _; rw [ih]; rfl
theorem dr1 {α : Type} (tk : List α) (c : α) (r : List α) : (tk ++ c :: r).drop (tk.length + 1) = r := by
  induction tk with
  | nil => rfl
  | cons a t ih => exact ih
theorem PR_maxL : ∀ m, m < 230 → (PR m).2.2.2.2.1 ≤ 21 := by decide +kernel
theorem PR_np : ∀ m, m < 230 → npM m + (1 - (PR m).2.1) ≤ (PR m).2.2.2.2.1 := by decide +kernel
section SND6
variable {p : Program} {l : Launch} {e : Env} {R : Room} {s : State} {m : MethodId} {args : Array Value} {below : List Frame} {meth : Method} {c : Code} {D : va_G} {ad : Id3 → Nat} {cy : Nat → ClassId} {fm : Value} {A : Nat → Prop} {V90 : Prop} {G0 : Mem} {o : Nat} {b : ByteArray} {nL : Nat} {ret : Option FieldType} {cells slots : Nat} {Z : State → Prop} {d : Nat}
variable {M : Mem} {k i j a bb pc idx mid n : Nat} {ls : Array Slot} {H : Heap} {locs : List Loc} {st : List AV} {Γ : GA} {lv : LV}
theorem snd_virt (C : Cx p s m args meth c D ad cy fm A V90 G0 o b nL ret) (HC : HCl l D ad cy fm d Γ) (hRf : d + 1 ≤ R.frames) (hRl : 40 * (d + 1) ≤ R.locals) (hcs : cells ≤ R.cells ∧ slots ≤ R.slots)
    (hd : decode b pc = .ok (.invokevirtual idx, 3)) (hmid : mid < 230) (hl : MTHS.any (fun q => q.1 == o && q.2.1 == idx && q.2.2.1 == mid && q.2.2.2.1 == 0) = true) (hn : n = npM mid + 1) (hk0 : (PR mid).2.1 = 0)
    (h : virtP Γ mid n [(0, (PR mid).1)] st M fun st' M' => SW p l e R s m args below meth c D ad cy fm A V90 G0 nL cells slots Z (pc + 3) lv st' M') : SW p l e R s m args below meth c D ad cy fm A V90 G0 nL cells slots Z pc lv st M := by
  intro ls H locs hlen hlv hvv hvs hg hP hS
  have C' := C
  obtain ⟨⟨hx, hb, hml, hr, hlk⟩, hown, hts, hK, hA, hinj, ks, hfm, hscr⟩ := C
  unfold virtP at h
  split at h
  case h_2 => exact h.elim
  rename_i k i j rest z o' hdr htb
  cases htb
  obtain ⟨⟨hn0, hkc⟩, h⟩ := chk_iff.mp h
  unfold callP at h
  split at h
  case isFalse => exact h.elim
  rename_i hc
  obtain ⟨hc1, hc2, hc3⟩ := hc
  have hst : st = st.take (n - 1) ++ .inr (k, i, j) :: rest := by rw [← hdr]; exact (List.take_append_drop _ _).symm
  have htl : (st.take (n - 1)).length = n - 1 := by rw [List.length_take]; omega
  generalize st.take (n - 1) = tk at hst htl
  subst hst
  have hn2 : n = tk.length + 1 := by omega
  rw [hn2, tk1, dr1] at h
  rw [List.reverse_append] at h
  have hvr : vAV V90 (.inr (k, i, j)) := hvs _ (by simp)
  have hk82 : k ≠ 82 := by
    rintro rfl
    have h9 := PR_own mid hmid
    have : kcl2 82 = 99 := rfl
    omega
  have hval : ∀ v ∈ ((.inr (k, i, j) : AV) :: tk.reverse), vAV False v := no90_ok (V90 := V90) (fun v hv => by
    rcases List.mem_cons.mp hv with h9 | h9
    · rw [h9]; exact hvr
    · exact hvs v (List.mem_append_left _ (List.mem_reverse.mp h9))) (by
    rw [List.all_append, Bool.and_eq_true, List.all_cons, Bool.and_eq_true] at hc3
    rw [List.all_cons, Bool.and_eq_true, List.all_reverse]
    exact ⟨hc3.2.1, hc3.1⟩)
  have hMet := HC mid (.inr (k, i, j) :: tk.reverse) M _ h hmid hval (by have := PR_np mid hmid; rw [hk0] at this; simp; omega)
  obtain ⟨w1, w2, w3, w4, w5, w6, w7, w8⟩ := mw_facts hmid
  obtain ⟨q5, hlw, -⟩ := mth_at hts hl
  have hkw : Cond.instanceMethod (PR mid).2.2.1 ∈ ALLW := by unfold kwM at w2; rw [hk0] at w2; exact w2
  have hsw : Cond.selects (RO (PR mid).1) (PR mid).2.2.1 (PR mid).2.2.1 ∈ ALLW := by have := w3 hk0; unfold swM at this; rw [hk0] at this; exact this
  have hcell : ∃ cellB : Cell, H[ad (k, i, j)]? = some cellB ∧ cellB.vm.isStatics = false ∧ s.vm.findClass (RO (PR mid).1) = some cellB.cls := by
    by_cases h80 : k = 80
    · subst h80
      have e12 : (12 : Nat) = (PR mid).1 := hkc
      rw [← e12]
      have hi : i < 11 ∧ j = 0 := by
        rcases hvr with h | h | h | h | h
        · exact absurd (cid_lt _ h) (by dsimp only; omega)
        · exact ⟨h.2.1, h.2.2⟩
        · exact absurd h.1 (by dsimp only; omega)
        · cases h
        · cases h.1
      obtain ⟨hi, rfl⟩ := hi
      exact vk_recv ks.1 hi hS
    · have hk2 : kcls k = (PR mid).1 := by
        rw [← hkc]; unfold kcl2; split
        · exact absurd rfl h80
        · rfl
      have h11 : kcls k < 11 := by
        rcases kcls_or k with z | z
        · exact z
        · have := PR_own mid hmid; omega
      obtain ⟨i0, hi, hws⟩ := ws_get (ad := ad) (cy := cy) (M := M) (hvr.cid (kcls_lt h11))
      rw [cell_obj h11] at hws
      have := va_recv hK hP (cl_at h11) hws
      rw [← hk2]
      exact this
  have hrun : va_Run p l e R s m args below meth c H locs cells slots 0 0 (F0 m pc ls ((tk ++ .inr (k, i, j) :: rest).map (encA ad fm))) (rest.map (encA ad fm)) (Qcm D ad cy fm (fun r M' => SW p l e R s m args below meth c D ad cy fm A V90 G0 nL cells slots Z (pc + 3) lv (r.toList ++ rest) M') M (Value.ref (ad (k, i, j)) :: tk.reverse.map (encA ad fm)).toArray) (WA ad) := va_runV (C := RO (PR mid).1) (b := ad (k, i, j)) (As := tk.reverse.map (encA ad fm)) (rest := rest.map (encA ad fm)) (cells := cells) (slots := slots) (g := F0 m pc ls ((tk ++ .inr (k, i, j) :: rest).map (encA ad fm))) ⟨hx, hb, hml, hown, hts⟩ hMet
    (cwV (ws' := ALLW) (bytes := (PR mid).2.2.2.1) (maxL := (PR mid).2.2.2.2.1) (ret := (PR mid).2.2.2.2.2.1) (index := idx) (npM mid) hts (goodAll (by
      intro w hw
      simp only [wsV, List.cons_append, List.nil_append, List.mem_cons] at hw
      rcases hw with rfl | rfl | rfl | rfl | hw
      · exact hlw
      · exact hkw
      · exact hsw
      · exact w1
      · exact wsOf_in hmid w hw)) rfl rfl rfl ⟨w4, w6, w7, w8⟩ ⟨by show d + 1 ≤ _; exact hRf, by have := PR_maxL mid hmid; show 8 + (_ + 11) + 40 * d ≤ _; omega⟩)
    ⟨pcm_blind, hcell, fun U hU hW => ⟨by rw [List.map_cons, enc_ref hk82], by rw [hU]; exact hP, va_K.moved hW.alike hK, kst_at ks hA hS hU hW⟩⟩
    rfl (by simp; omega) (by show ls.size = nL; rw [hlv.1, hlen]) (by show List.map _ _ = _; rw [List.map_append, List.map_cons, enc_ref hk82]; simp) (lv_room (by rw [cat_sum hfm]; simp at hc2; omega)) hd ⟨by simpa using hcs.1, by simpa using hcs.2⟩
  refine call_back hrun hS hA (fun r M' H1 locs1 hz hr1 hg1 hP1 hS1 => ?_)
  have h9 := hz ls H1 locs1 hlen hlv hvv (by
    intro v hv
    rcases List.mem_append.mp hv with h | h
    · cases r with
      | none => cases h
      | some u =>
        have : v = u := by simpa using h
        rw [this]
        exact (hr1 u rfl).weak
    · exact hvs v (List.mem_append_right _ (List.mem_cons_of_mem _ h))) (fun k hk => (hg1 k hk).trans (hg k hk)) hP1 hS1
  rw [List.map_append, ← toList_map] at h9
  exact h9
theorem snd_stat (C : Cx p s m args meth c D ad cy fm A V90 G0 o b nL ret) (HC : HCl l D ad cy fm d Γ) (hRf : d + 1 ≤ R.frames) (hRl : 40 * (d + 1) ≤ R.locals) (hcs : cells ≤ R.cells ∧ slots ≤ R.slots)
    (hd : decode b pc = .ok (.invokestatic idx, 3)) (hmid : mid < 230) (hl : MTHS.any (fun q => q.1 == o && q.2.1 == idx && q.2.2.1 == mid && q.2.2.2.1 == 1) = true ∨ NSTS.any (fun q => q.1 == o && q.2.1 == idx && q.2.2.1 == mid && q.2.2.2.1 == 2) = true) (hn : n = npM mid) (hk1 : (PR mid).2.1 = 1)
    (h : callP Γ mid n st M fun st' M' => SW p l e R s m args below meth c D ad cy fm A V90 G0 nL cells slots Z (pc + 3) lv st' M') : SW p l e R s m args below meth c D ad cy fm A V90 G0 nL cells slots Z pc lv st M := by
  intro ls H locs hlen hlv hvv hvs hg hP hS
  obtain ⟨⟨hx, hb, hml, hr, hlk⟩, hown, hts, hK, hA, hinj, ks, hfm, hscr⟩ := C
  unfold callP at h
  split at h
  case isFalse => exact h.elim
  rename_i hc
  obtain ⟨hc1, hc2, hc3⟩ := hc
  have hst : st = st.take n ++ st.drop n := (List.take_append_drop _ _).symm
  have htl : (st.take n).length = n := by rw [List.length_take]; omega
  generalize st.take n = tk at hst htl h
  generalize st.drop n = rest at hst h
  subst hst
  have hval : ∀ v ∈ tk.reverse, vAV False v := no90_ok (V90 := V90) (fun v hv => hvs v (List.mem_append_left _ (List.mem_reverse.mp hv))) (by
    rw [List.all_append, Bool.and_eq_true] at hc3
    rw [List.all_reverse]
    exact hc3.1)
  have hMet := HC mid tk.reverse M _ h hmid hval (by have := PR_np mid hmid; rw [hk1] at this; simp; omega)
  obtain ⟨w1, w2, w3, w4, w5, w6, w7, w8⟩ := mw_facts hmid
  have hkw : Cond.static (PR mid).2.2.1 ∈ ALLW := by unfold kwM at w2; rw [hk1] at w2; exact w2
  have hroom : (rm d).frames + 1 ≤ R.frames ∧ 8 + ((PR mid).2.2.2.2.1 + 11) + (rm d).locals ≤ R.locals := ⟨by show d + 1 ≤ _; exact hRf, by have := PR_maxL mid hmid; show 8 + (_ + 11) + 40 * d ≤ _; omega⟩
  have hpre : PreS s H (Pcm D ad cy fm tk.reverse M) (tk.reverse.map (encA ad fm)) := ⟨pcm_blind, fun U hU hW => ⟨rfl, by rw [hU]; exact hP, va_K.moved hW.alike hK, kst_at ks hA hS hU hW⟩⟩
  have hrun : va_Run p l e R s m args below meth c H locs cells slots 0 0 (F0 m pc ls ((tk ++ rest).map (encA ad fm))) (rest.map (encA ad fm)) (Qcm D ad cy fm (fun r M' => SW p l e R s m args below meth c D ad cy fm A V90 G0 nL cells slots Z (pc + 3) lv (r.toList ++ rest) M') M (tk.reverse.map (encA ad fm)).toArray) (WA ad) := by
    rcases hl with hl | hl
    · obtain ⟨q5, hlw, -⟩ := mth_at hts hl
      exact va_runS ⟨hx, hb, hml, hown, hts⟩ hMet
        (va_cwS (ws' := ALLW) (bytes := (PR mid).2.2.2.1) (maxL := (PR mid).2.2.2.2.1) (ret := (PR mid).2.2.2.2.2.1) (index := idx) (npM mid) hts (goodAll (by
          intro w hw
          simp only [va_wsS, List.cons_append, List.nil_append, List.mem_cons] at hw
          rcases hw with rfl | rfl | rfl | hw
          · exact hlw
          · exact hkw
          · rw [w4]; exact w1
          · exact wsOf_in hmid w hw)) rfl rfl rfl ⟨w6, w7, w8⟩ hroom) hpre
        rfl (by simp; omega) (by show ls.size = nL; rw [hlv.1, hlen]) (by show List.map _ _ = _; rw [List.map_append]; simp) (lv_room (by rw [cat_sum hfm]; simp at hc2; omega)) hd ⟨by simpa using hcs.1, by simpa using hcs.2⟩
    · obtain ⟨q, hm, hq'⟩ := any_at hl
      obtain ⟨q1, q2, q3, q4, q5⟩ := q
      simp only [Bool.and_eq_true, beq_iff_eq] at hq'
      obtain ⟨⟨⟨rfl, rfl⟩, rfl⟩, rfl⟩ := hq'
      have hnw := ks.2.2.2.2 _ hm
      exact va_runSN (host := "BedsArePlaces") ⟨hx, hb, hml, hown, hts⟩ hMet
        ⟨va_cnB (ws' := ALLW) (npM q3) hts (goodAll (wsOf_in hmid)) rfl rfl rfl hnw (by rw [w4]; exact hts _ w1) ⟨w6, w7, w8⟩ hroom, hts _ hkw, trivial⟩ hpre
        rfl (by simp; omega) (by show ls.size = nL; rw [hlv.1, hlen]) (by show List.map _ _ = _; rw [List.map_append]; simp) (lv_room (by rw [cat_sum hfm]; simp at hc2; omega)) hd ⟨by simpa using hcs.1, by simpa using hcs.2⟩
  refine call_back hrun hS hA (fun r M' H1 locs1 hz hr1 hg1 hP1 hS1 => ?_)
  have h9 := hz ls H1 locs1 hlen hlv hvv (by
    intro v hv
    rcases List.mem_append.mp hv with h | h
    · cases r with
      | none => cases h
      | some u =>
        have : v = u := by simpa using h
        rw [this]
        exact (hr1 u rfl).weak
    · exact hvs v (List.mem_append_right _ h)) (fun k hk => (hg1 k hk).trans (hg k hk)) hP1 hS1
  rw [List.map_append, ← toList_map] at h9
  exact h9
end SND6
