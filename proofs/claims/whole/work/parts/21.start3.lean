-- 21.start3: the law from its entry to its loop (kit skeleton first, by program gen21.py)
def R_law : String := "BedsArePlacesLaw"
def lw_P (b : Addr) (xs : List Int32) (args : Array Value) (s : State) : Prop := args = #[.ref b] ∧ s.IntsAt b xs ∧ xs.length ≤ 3072 ∧ (Jvm.Cond.and given_1 narrow_1).before args s = true
def lw_Q (_ : Array Value) (s : State) (o : Outcome) (t : State) : Prop := o = .returned (some (.int 1)) ∧ Framed s o t [] 600000 7302250
def lw_Z (below : List Frame) (a : Array Value) (s : State) : State → Prop := fun t => ∃ o, t.status = .running ∧ Ended t below o ∧ lw_Q a s o t
/-- the law's own end, with 1 on the stack, nothing written that was there before, its room as the claim has it -/
theorem lw_ret {p : Program} {l : Launch} {e : Env} {s : State} {m : MethodId} {below : List Frame} {meth : Method} {c : Code} {b : Nat} (hx : p.tables.exec = Jvm.exec) (hb : c.code = code) (hr : meth.sig.returnType = ret) (hlocks : meth.locks = false) {pc : Nat} {H : Heap} {ls : Array Slot} (hdg : decode code pc = .ok (.ireturn, 1)) : W p l e room_1 s m #[Value.ref b] below meth c H [] 600000 7302250 (lw_Z below #[Value.ref b] s) (F0 m pc ls [.int 1]) := by
  intro T hT X
  obtain ⟨fs, hret, hrun, hended, hW, hframe⟩ := X.leave (v := some (.int 1)) (hlocks := hlocks) (fun h => by rw [hr] at h; cases h)
  have hmeth' : T.vm.method? m = some meth := X.method'
  refine ⟨T.setFrames fs, ?_, .returned (some (.int 1)), hrun, hended, rfl, ⟨_, rfl⟩, hW, hframe⟩
  jvm_step X.here [X.here.top, hx, hb, hdg, hmeth', hr, ret, narrow_b1]
  (try refine ⟨rfl, ?_⟩); (try refine ⟨rfl, ?_⟩)
  first | (intro acts; rw [hret _ acts rfl rfl rfl]) | rw [hret _ _ rfl rfl rfl]
  exact Steps.refl _
/-- what holds at the law's entry: the machine, the code, the tables' words (any of lw_tbl by 'hts w (by decide +kernel)'), the script of L ints xs at the cell b, what the Statement gives of the start (any of its parts by flat_of_before) -/
def lw_At (p : Program) (s : State) (m : MethodId) (meth : Method) (c : Code) (b L : Nat) (xs : Nat → Int32) : Prop :=
  p.tables.exec = Jvm.exec ∧ c.code = code ∧ meth.sig.returnType = ret ∧ c.maxLocals = 4 ∧ s.vm.findClass R_law = some m.cls ∧ (∀ w ∈ lw_tbl, w.before #[Value.ref b] s = true) ∧ va_X b L xs s s.heap ∧ b < s.heap.size ∧ meth.locks = false ∧ (Jvm.Cond.and given_1 narrow_1).before #[Value.ref b] s = true
-- our own part
def M0 (xs : Nat → Int32) (L : Nat) : Mem := fun k i j s => if k < 70 then Mz k i j s else if k = 90 then xs s else if k = 91 then Int32.ofNat L else 0
theorem M0_lo {xs : Nat → Int32} {L k : Nat} (h : k < 70) : M0 xs L k = Mz k := by
  funext i j s
  unfold M0
  rw [if_pos h]
/-- the law's loop, over the small machine, ends with true -/
def LawRun : Prop := ∀ (xs : Nat → Int32) (L : Nat), L ≤ 3072 → ∃ d, d ≤ 2000 ∧ ∀ S : CF, Clo (Td PR d) (some .boolean) T_L_law (fun r _ => r = some (.inl 1)) S → S 16 [some (.inr (90, 0, 0)), some (.inr (0, 0, 0)), some (.inr (30, 0, 0)), none] [] (M0 xs L)
theorem retP_one {v : Int32} {P : Prop} (h : retP (some .boolean) v P) : P := by
  unfold retP at h
  exact h.2
theorem toN_ofNat {L : Nat} (h : L ≤ 3072) : (Int32.ofNat L).toNatClampNeg = L := by
  have h1 : (Int32.ofNat L).toInt = (L : Int) := Int32.toInt_ofNat_of_lt (by omega)
  unfold Int32.toNatClampNeg
  rw [h1]
  rfl
theorem lawLinks : CLN.any (fun q => q.1 == 11 && q.2.1 == 7 && q.2.2.1 == 9) = true ∧ CLN.any (fun q => q.1 == 11 && q.2.1 == 10 && q.2.2.1 == 10) = true ∧ CTL.any (fun q => q.1 == 11 && q.2.1 == 9 && q.2.2.1 == 9 && q.2.2.2.1 == 1) = true ∧ CTL.any (fun q => q.1 == 11 && q.2.1 == 12 && q.2.2.1 == 10 && q.2.2.2.1 == 1) = true ∧ npC 9 = 0 ∧ npC 10 = 0 := by decide +kernel
theorem dLl_0 : decode cL_law 0 = .ok (.new 7, 3) := by decide +kernel
theorem dLl_3 : decode cL_law 3 = .ok (.dup, 1) := by decide +kernel
theorem dLl_4 : decode cL_law 4 = .ok (.invokespecial 9, 3) := by decide +kernel
theorem dLl_7 : decode cL_law 7 = .ok (.astore_n 1, 1) := by decide +kernel
theorem dLl_8 : decode cL_law 8 = .ok (.new 10, 3) := by decide +kernel
theorem dLl_11 : decode cL_law 11 = .ok (.dup, 1) := by decide +kernel
theorem dLl_12 : decode cL_law 12 = .ok (.invokespecial 12, 3) := by decide +kernel
theorem dLl_15 : decode cL_law 15 = .ok (.astore_n 2, 1) := by decide +kernel
theorem budLaw : bud 9 = (136, 20000) ∧ bud 10 = (25, 20000) ∧ NF 9 = 11 ∧ NF 10 = 37 := by decide +kernel
theorem whole_of (HL : LawRun) {p : Program} {e : Env} {s : State} {m : MethodId} {below : List Frame} {meth : Method} {c : Code} (l : Launch) {b L : Nat} {xs : Nat → Int32} (hL : L ≤ 3072) (C0 : lw_At p s m meth c b L xs) : W p l e room_1 s m #[Value.ref b] below meth c s.heap [] 0 0 (lw_Z below #[Value.ref b] s) (entryFrame m ([Value.ref b] : List Value).toArray 4) := by
  obtain ⟨hx, hb, hr, hml, hown, hts, hX, hbl, hlocks, hgv⟩ := C0
  obtain ⟨D, cy, hK⟩ := K_start hts
  have hA0 : ∀ a : Nat, a < s.heap.size → ¬ s.heap.size ≤ a := fun a h1 h2 => by omega
  obtain ⟨adK, adV, fm, hfm, hks⟩ := kst_start (A := fun q => s.heap.size ≤ q) hgv hts hA0
  have hts1 : ∀ w ∈ ALLW, w.before #[Value.ref b] s = true := fun w hw => hts w (List.mem_filter.mp hw).1
  have hN : AUX s := ⟨fun q hq => va_Nw.of (st_nc q hq).2 (hts _ (st_nc q hq).1), fun t h3 h7 => va_AO.of (hts _ (st_ao t (by omega) h3))⟩
  have C : Cy p s m #[Value.ref b] meth c D s.heap.size cy (fun q => s.heap.size ≤ q) 11 cL_law 4 := ⟨⟨hx, hb, hml⟩, hown, hts1, hK, fun q hq => hq, hN⟩
  obtain ⟨l1, l2, l3, l4, l5, l6⟩ := lawLinks
  obtain ⟨b9, b10, n9, n10⟩ := budLaw
  have hl := lv_entry ([.ref b]) (n := 4) (Nat.le_of_ble_eq_true rfl)
  rw [lg_entry_eq]
  generalize (lg_sl ([.ref b]) ++ List.replicate (4 - (lg_sl ([.ref b])).length) Slot.unset).toArray = ls at hl ⊢
  have hl : lv_has ls 4 [(0, .ref b)] := hl
  have hS : va_S (fun q => s.heap.size ≤ q) s.heap s.heap [] := va_S.rf
  have hP : va_P D clAll (ws2 s.heap.size cy []) s.heap := fun k q hk => by simp [ws2] at hk
  have HC : ∀ d, HC2 l D s.heap.size cy d (sem2 d) := sem2_sound
  refine ct_new (h := []) C dLl_0 l1 ⟨by show 0 + 1 ≤ 600000; omega, by rw [n9]; show 0 + 11 ≤ 7302250; omega⟩ rfl hP hS fun H1 hP1 hS1 => ?_
  refine lv_dup hx hb dLl_3 rfl ?_
  refine W.size fun hz1 => ?_
  have hz1 : H1.size = s.heap.size + h0.length := size_of2 (hs := 0) (h := h0) hP1 hS1 hz1 rfl rfl
  refine ct_call (av := []) (h := h0) (h' := h1) C (HC 4) (by show 4 + 1 ≤ 2048; omega) (by show 40 * (4 + 1) ≤ 84000; omega) dLl_4 (k := 9) (by omega) (Or.inl l3) l5.symm (Nat.le_of_ble_eq_true rfl) ⟨by rw [b9]; show 0 + 1 + 136 ≤ 600000; omega, by rw [b9, n9]; show 0 + 11 + 20000 ≤ 7302250; omega⟩ hz1 hl.1 h1_ok hP1 hS1 fun H2 locs2 hP2 hS2 => ?_
  refine lv_astore_n hx hb dLl_7 rfl hl (by omega) rfl fun ls1 hl1 => ?_
  refine W.size fun hz2 => ?_
  have hz2 : H2.size = s.heap.size + h1.length := size_of2 (hs := 0) hP2 hS2 hz2 rfl (by rw [b9, h1_len]; rfl)
  refine ct_new (h := h1) C dLl_8 l2 ⟨by rw [b9]; show 0 + 1 + 136 + 1 ≤ 600000; omega, by rw [b9, n9, n10]; show 0 + 11 + 20000 + 37 ≤ 7302250; omega⟩ hz2 hP2 hS2 fun H3 hP3 hS3 => ?_
  refine lv_dup hx hb dLl_11 rfl ?_
  refine W.size fun hz3 => ?_
  have hz3 : H3.size = s.heap.size + h2.length := size_of2 (hs := 0) (h := h2) hP3 hS3 hz3 rfl (by rw [b9]; show 0 + 1 + 136 + 1 + 0 = (h1 ++ [_]).length; rw [List.length_append, h1_len]; rfl)
  refine ct_call (av := []) (h := h2) (h' := h3) C (HC 4) (by show 4 + 1 ≤ 2048; omega) (by show 40 * (4 + 1) ≤ 84000; omega) dLl_12 (k := 10) (by omega) (Or.inl l4) l6.symm (Nat.le_of_ble_eq_true rfl) ⟨by rw [b9, b10]; show 0 + 1 + 136 + 1 + 25 ≤ 600000; omega, by rw [b9, b10, n9, n10]; show 0 + 11 + 20000 + 37 + 20000 ≤ 7302250; omega⟩ hz3 hl1.1 h3_ok hP3 hS3 fun H4 locs4 hP4 hS4 => ?_
  refine lv_astore_n hx hb dLl_15 rfl hl1 (by omega) rfl fun ls2 hl2 => ?_
  refine W.widen (k := 600000) (n := 7302250) (by rw [b9, b10]; show 0 + 1 + 136 + 1 + 25 ≤ 600000; omega) (by rw [b9, b10, n9, n10]; show 0 + 11 + 20000 + 37 + 20000 ≤ 7302250; omega) ?_
  obtain ⟨ad, ha1, ha2, ha3, ha4⟩ : ∃ ad : Id3 → Nat, (∀ c, c.1 < 70 → ad c = s.heap.size + num c) ∧ (∀ i, ad (80, i, 0) = adK i) ∧ (∀ i, ad (81, i, 0) = adV i) ∧ ad (90, 0, 0) = b :=
    ⟨fun c => if c.1 < 70 then s.heap.size + num c else if c.1 = 80 then adK c.2.1 else if c.1 = 81 then adV c.2.1 else b, fun c h => if_pos h, fun i => rfl, fun i => rfl, rfl⟩
  have hPM := conv_P (M := M0 xs L) hP4 ha1 (fun k hk => M0_lo hk)
  have CC : Cx p s m #[Value.ref b] meth c D ad cy fm (fun q => s.heap.size ≤ q) True (M0 xs L) 11 cL_law 4 (some .boolean) := by
    refine ⟨⟨hx, hb, hml, hr, hlocks⟩, hown, hts1, hK, fun c hc => ?_, fun c c' h h' he => ?_, hks ad ha2 ha3, hfm, fun _ => ?_⟩
    · show s.heap.size ≤ ad c
      rw [ha1 c (cid_lt c hc)]
      omega
    · rw [ha1 c (cid_lt c h), ha1 c' (cid_lt c' h')] at he
      exact num_inj h h' (by omega)
    · rw [ha4]
      have e91 : (M0 xs L) 91 0 0 0 = Int32.ofNat L := rfl
      have e90 : (M0 xs L) 90 0 0 = xs := rfl
      rw [e91, e90, toN_ofNat hL]
      exact ⟨hX, hbl, by omega, rfl⟩
  obtain ⟨d, hd, HS⟩ := HL xs L hL
  have hSND := snd (l := l) (D := D) (ad := ad) (cy := cy) (fm := fm) (fun c c' h h' he => CC.2.2.2.2.2.1 c c' h h' he) hfm d
  have HR : HRt p l e room_1 s m #[Value.ref b] below meth c D ad cy fm (fun q => s.heap.size ≤ q) True (M0 xs L) cL_law (some .boolean) 600000 7302250 (lw_Z below #[Value.ref b] s) (fun r _ => r = some (.inl 1)) := by
    refine ⟨fun v M' pc ls H locs hd hq hg hP hS => ?_, fun k i j M' pc ls H locs hd hk hvv hq hg hP hS => ?_, fun M' pc ls H locs hd hr hq hg hP hS => ?_⟩
    · have h1 := retP_one hq
      cases h1
      exact va_forget hS.2.2 (lw_ret hx hb hr hlocks hd)
    · cases hq
    · cases hr
  have K := HS _ (clo_sound (r := r_L_law) ok_law CC hSND (by show d + 1 ≤ 2048; omega) (by show 40 * (d + 1) ≤ 84000; omega) ⟨Nat.le_refl _, Nat.le_refl _⟩ HR)
  refine K ls2 H4 locs4 rfl ?_ ?_ (fun v hv => by cases hv) (fun _ _ => rfl) hPM hS4
  · refine ⟨hl2.1, hl2.2.1, fun i v hv => ?_⟩
    have q0 : ls2[0]? = some (.val (.ref b)) := lv_at hl2 2 rfl
    have q1 : ls2[1]? = some (.val (.ref (s.heap.size + 0))) := lv_at hl2 1 rfl
    have q2 : ls2[2]? = some (.val (.ref (s.heap.size + h1.length))) := lv_at hl2 0 rfl
    have n0 : num (0, 0, 0) = 0 := by decide +kernel
    have n30 : num (30, 0, 0) = 137 := by decide +kernel
    match i, hv with
    | 0, hv => cases hv; rw [q0, enc_ref (by decide), ha4]
    | 1, hv => cases hv; rw [q1, enc_ref (by decide), ha1 _ (by decide), n0]
    | 2, hv => cases hv; rw [q2, enc_ref (by decide), ha1 _ (by decide), n30, h1_len]
    | 3, hv => cases hv
    | i + 4, hv => cases hv
  · intro v hv
    simp only [List.mem_cons, Option.some.injEq, List.not_mem_nil, or_false] at hv
    rcases hv with rfl | rfl | rfl | hv
    · exact Or.inr (Or.inr (Or.inr (Or.inr ⟨rfl, trivial⟩)))
    · exact Or.inl (by decide +kernel)
    · exact Or.inl (by decide +kernel)
    · cases hv
