-- 10.sound5: texts, statics, Math, copies, calls
section SND5
variable {p : Program} {l : Launch} {e : Env} {R : Room} {s : State} {m : MethodId} {args : Array Value} {below : List Frame} {meth : Method} {c : Code} {D : va_G} {ad : Id3 → Nat} {cy : Nat → ClassId} {fm : Value} {A : Nat → Prop} {V90 : Prop} {G0 : Mem} {o : Nat} {b : ByteArray} {nL : Nat} {ret : Option FieldType} {cells slots : Nat} {Z : State → Prop} {d : Nat}
variable {M : Mem} {k i j a bb pc idx : Nat} {ls : Array Slot} {H : Heap} {locs : List Loc} {r : List AV}
theorem snd_sval (C : Cx p s m args meth c D ad cy fm A V90 G0 o b nL ret) (hd : decode b pc = .ok (.getfield idx, 3)) (hl : FLDJ.any (fun q => q.1 == o && q.2.1 == idx && q.2.2.1 == 100 && q.2.2.2.1 == 0) = true) (hk : k = 80) (hq : vAV V90 (.inr (k, i, j)))
    (hS : va_S A s.heap H locs) (kk : vAV V90 (.inr (81, i, 0)) → W p l e R s m args below meth c H locs cells slots Z (F0 m (pc + 3) ls (encA ad fm (.inr (81, i, 0)) :: r.map (encA ad fm)))) :
    W p l e R s m args below meth c H locs cells slots Z (F0 m pc ls (encA ad fm (.inr (k, i, j)) :: r.map (encA ad fm))) := by
  obtain ⟨⟨hx, hb, hml, hr, hlk⟩, hown, hts, hK, hA, hinj, ks, hfm, hscr⟩ := C
  obtain ⟨q, hm, hq'⟩ := any_at hl
  obtain ⟨q1, q2, q3, q4, q5⟩ := q
  simp only [Bool.and_eq_true, beq_iff_eq] at hq'
  obtain ⟨⟨⟨rfl, rfl⟩, rfl⟩, rfl⟩ := hq'
  subst hk
  have hi : i < 11 ∧ j = 0 := by
    rcases hq with h | h | h | h | h
    · exact absurd (cid_lt _ h) (by dsimp only; omega)
    · exact ⟨h.2.1, h.2.2⟩
    · exact absurd h.1 (by dsimp only; omega)
    · cases h
    · cases h.1
  obtain ⟨hi, rfl⟩ := hi
  have h9 := kk (Or.inr (Or.inr (Or.inl ⟨rfl, hi, rfl⟩)))
  exact vk_getf hx hb (ks.1.1 i hi).2.2.1 hS hown (hts _ (aw2 (flj_ok _ hm))) (fun _ h => h) hd h9
theorem snd_scod (C : Cx p s m args meth c D ad cy fm A V90 G0 o b nL ret) (hd : decode b pc = .ok (.getfield idx, 3)) (hl : FLDJ.any (fun q => q.1 == o && q.2.1 == idx && q.2.2.1 == 100 && q.2.2.2.1 == 1) = true) (hk : k = 80) (hq : vAV V90 (.inr (k, i, j)))
    (hS : va_S A s.heap H locs) (kk : W p l e R s m args below meth c H locs cells slots Z (F0 m (pc + 3) ls (.int 0 :: r.map (encA ad fm)))) :
    W p l e R s m args below meth c H locs cells slots Z (F0 m pc ls (encA ad fm (.inr (k, i, j)) :: r.map (encA ad fm))) := by
  obtain ⟨⟨hx, hb, hml, hr, hlk⟩, hown, hts, hK, hA, hinj, ks, hfm, hscr⟩ := C
  obtain ⟨q, hm, hq'⟩ := any_at hl
  obtain ⟨q1, q2, q3, q4, q5⟩ := q
  simp only [Bool.and_eq_true, beq_iff_eq] at hq'
  obtain ⟨⟨⟨rfl, rfl⟩, rfl⟩, rfl⟩ := hq'
  subst hk
  have hi : i < 11 ∧ j = 0 := by
    rcases hq with h | h | h | h | h
    · exact absurd (cid_lt _ h) (by dsimp only; omega)
    · exact ⟨h.2.1, h.2.2⟩
    · exact absurd h.1 (by dsimp only; omega)
    · cases h
    · cases h.1
  obtain ⟨hi, rfl⟩ := hi
  exact vk_getf hx hb (ks.1.1 i hi).2.1 hS hown (hts _ (aw2 (flj_ok _ hm))) (fun _ h => h) hd kk
theorem v81 (hq : vAV V90 (.inr (81, i, j))) : i < 11 ∧ j = 0 := by
  rcases hq with h | h | h | h | h
  · exact absurd (cid_lt _ h) (by dsimp only; omega)
  · exact absurd h.1 (by dsimp only; omega)
  · exact ⟨h.2.1, h.2.2⟩
  · cases h
  · cases h.1
theorem v90 (hq : vAV V90 (.inr (90, i, j))) : (i = 0 ∧ j = 0) ∧ V90 := by
  rcases hq with h | h | h | h | h
  · exact absurd (cid_lt _ h) (by dsimp only; omega)
  · exact absurd h.1 (by dsimp only; omega)
  · exact absurd h.1 (by dsimp only; omega)
  · cases h
  · cases h.1; exact ⟨⟨rfl, rfl⟩, h.2⟩
theorem snd_sbal (C : Cx p s m args meth c D ad cy fm A V90 G0 o b nL ret) (hd : decode b pc = .ok (.baload, 1)) (hq : vAV V90 (.inr (81, i, j))) {x : Int32} (hin : vp_in x (sLen i)) (hS : va_S A s.heap H locs)
    (kk : W p l e R s m args below meth c H locs cells slots Z (F0 m (pc + 1) ls (.int ((sByt.getD i []).getD x.toNatClampNeg 0) :: r.map (encA ad fm)))) :
    W p l e R s m args below meth c H locs cells slots Z (F0 m pc ls (.int x :: encA ad fm (.inr (81, i, j)) :: r.map (encA ad fm))) := by
  obtain ⟨⟨hx, hb, hml, hr, hlk⟩, hown, hts, hK, hA, hinj, ks, hfm, hscr⟩ := C
  obtain ⟨hi, rfl⟩ := v81 hq
  exact va_tb hx hb (ks.1.1 i hi).2.2.2 hS (by rw [sLen_eq i hi]; exact hin) rfl hd kk
theorem snd_slen (C : Cx p s m args meth c D ad cy fm A V90 G0 o b nL ret) (hd : decode b pc = .ok (.arraylength, 1)) (hq : vAV V90 (.inr (81, i, j))) (hS : va_S A s.heap H locs)
    (kk : W p l e R s m args below meth c H locs cells slots Z (F0 m (pc + 1) ls (.int (nI (sLen i)) :: r.map (encA ad fm)))) :
    W p l e R s m args below meth c H locs cells slots Z (F0 m pc ls (encA ad fm (.inr (81, i, j)) :: r.map (encA ad fm))) := by
  obtain ⟨⟨hx, hb, hml, hr, hlk⟩, hown, hts, hK, hA, hinj, ks, hfm, hscr⟩ := C
  obtain ⟨hi, rfl⟩ := v81 hq
  exact va_tlen hx hb (ks.1.1 i hi).2.2.2 hS (by rw [sLen_eq i hi]; rfl) hd kk
theorem snd_scr (C : Cx p s m args meth c D ad cy fm A V90 G0 o b nL ret) (hd : decode b pc = .ok (.iaload, 1)) (hq : vAV V90 (.inr (90, i, j))) (hg : ∀ k, 83 ≤ k → M k = G0 k) {x : Int32} (hin : vp_in x (M 91 0 0 0).toNatClampNeg) (hS : va_S A s.heap H locs)
    (kk : W p l e R s m args below meth c H locs cells slots Z (F0 m (pc + 1) ls (.int (M 90 0 0 x.toNatClampNeg) :: r.map (encA ad fm)))) :
    W p l e R s m args below meth c H locs cells slots Z (F0 m pc ls (.int x :: encA ad fm (.inr (90, i, j)) :: r.map (encA ad fm))) := by
  obtain ⟨⟨hx, hb, hml, hr, hlk⟩, hown, hts, hK, hA, hinj, ks, hfm, hscr⟩ := C
  obtain ⟨⟨rfl, rfl⟩, hV⟩ := v90 hq
  obtain ⟨h1, h2, h3, h4⟩ := hscr hV
  rw [hg 91 (by omega)] at hin
  rw [hg 90 (by omega)] at kk
  exact va_sld hx hb h1 h2 h3 hS hin hd kk
theorem snd_scl (C : Cx p s m args meth c D ad cy fm A V90 G0 o b nL ret) (hd : decode b pc = .ok (.arraylength, 1)) (hq : vAV V90 (.inr (90, i, j))) (hg : ∀ k, 83 ≤ k → M k = G0 k) (hS : va_S A s.heap H locs)
    (kk : W p l e R s m args below meth c H locs cells slots Z (F0 m (pc + 1) ls (.int (M 91 0 0 0) :: r.map (encA ad fm)))) :
    W p l e R s m args below meth c H locs cells slots Z (F0 m pc ls (encA ad fm (.inr (90, i, j)) :: r.map (encA ad fm))) := by
  obtain ⟨⟨hx, hb, hml, hr, hlk⟩, hown, hts, hK, hA, hinj, ks, hfm, hscr⟩ := C
  obtain ⟨⟨rfl, rfl⟩, hV⟩ := v90 hq
  obtain ⟨h1, h2, h3, h4⟩ := hscr hV
  rw [hg 91 (by omega), ← h4] at kk
  exact va_slen hx hb h1 h2 h3 hS hd kk
theorem snd_st0 (C : Cx p s m args meth c D ad cy fm A V90 G0 o b nL ret) (hd : decode b pc = .ok (.getstatic idx, 3)) (hl : FLDJ.any (fun q => q.1 == o && q.2.1 == idx && q.2.2.1 == 200 && q.2.2.2.1 == 0) = true) (hS : va_S A s.heap H locs)
    (kk : W p l e R s m args below meth c H locs cells slots Z (F0 m (pc + 3) ls (.int 1 :: r.map (encA ad fm)))) :
    W p l e R s m args below meth c H locs cells slots Z (F0 m pc ls (r.map (encA ad fm))) := by
  obtain ⟨⟨hx, hb, hml, hr, hlk⟩, hown, hts, hK, hA, hinj, ks, hfm, hscr⟩ := C
  obtain ⟨q, hm, hq'⟩ := any_at hl
  obtain ⟨q1, q2, q3, q4, q5⟩ := q
  simp only [Bool.and_eq_true, beq_iff_eq] at hq'
  obtain ⟨⟨⟨rfl, rfl⟩, rfl⟩, rfl⟩ := hq'
  exact va_gets hx hb ks.2.2.1 hS hown (hts _ (aw2 (flj_ok _ hm))) (fun _ h => h) hd kk
theorem snd_st1 (C : Cx p s m args meth c D ad cy fm A V90 G0 o b nL ret) (hd : decode b pc = .ok (.getstatic idx, 3)) (hl : FLDJ.any (fun q => q.1 == o && q.2.1 == idx && q.2.2.1 == 200 && q.2.2.2.1 == 1) = true) (hS : va_S A s.heap H locs)
    (kk : W p l e R s m args below meth c H locs cells slots Z (F0 m (pc + 3) ls (encA ad fm (.inr (82, 0, 0)) :: r.map (encA ad fm)))) :
    W p l e R s m args below meth c H locs cells slots Z (F0 m pc ls (r.map (encA ad fm))) := by
  obtain ⟨⟨hx, hb, hml, hr, hlk⟩, hown, hts, hK, hA, hinj, ks, hfm, hscr⟩ := C
  obtain ⟨q, hm, hq'⟩ := any_at hl
  obtain ⟨q1, q2, q3, q4, q5⟩ := q
  simp only [Bool.and_eq_true, beq_iff_eq] at hq'
  obtain ⟨⟨⟨rfl, rfl⟩, rfl⟩, rfl⟩ := hq'
  exact va_gets hx hb ks.2.2.2.1 hS hown (hts _ (aw2 (flj_ok _ hm))) (fun _ h => h) hd kk
theorem mth_at {mid kd : Nat} (hts : ∀ w ∈ ALLW, w.before args s = true) (hl : MTHS.any (fun q => q.1 == o && q.2.1 == idx && q.2.2.1 == mid && q.2.2.2.1 == kd) = true) : ∃ q5, mkM (o, idx, mid, kd, q5) ∈ ALLW ∧ (o, idx, mid, kd, q5) ∈ MTHS := by
  obtain ⟨q, hm, hq'⟩ := any_at hl
  obtain ⟨q1, q2, q3, q4, q5⟩ := q
  simp only [Bool.and_eq_true, beq_iff_eq] at hq'
  obtain ⟨⟨⟨rfl, rfl⟩, rfl⟩, rfl⟩ := hq'
  exact ⟨q5, aw2 (mth_ok _ hm), hm⟩
theorem mth_at2 {kd : Nat} (hl : MTHS.any (fun q => q.1 == o && q.2.1 == idx && q.2.2.2.1 == kd) = true) : ∃ mid q5, mkM (o, idx, mid, kd, q5) ∈ ALLW := by
  obtain ⟨q, hm, hq'⟩ := any_at hl
  obtain ⟨q1, q2, q3, q4, q5⟩ := q
  simp only [Bool.and_eq_true, beq_iff_eq] at hq'
  obtain ⟨⟨rfl, rfl⟩, rfl⟩ := hq'
  exact ⟨q3, q5, aw2 (mth_ok _ hm)⟩
theorem nat_ok : Cond.native arraycopyName ∈ ALLW ∧ Cond.static arraycopyName ∈ ALLW ∧ Cond.initialized "java/lang/System" ∈ ALLW := by
  refine ⟨?_, ?_, ?_⟩ <;> exact List.mem_filter.mpr (by decide +kernel)
end SND5
