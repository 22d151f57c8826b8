-- 18.ctor5: the constructors as a whole
def SW2 (p : Program) (l : Launch) (e : Env) (R : Room) (s : State) (m : MethodId) (args : Array Value) (below : List Frame) (meth : Method) (c : Code) (D : va_G) (base : Nat) (cy : Nat → ClassId) (nL hs : Nat) (B : Nat × Nat) (Z : State → Prop) (pc : Nat) (lv : List (Option W2)) (st : List W2) (h : List C2) (cu su : Nat) : Prop :=
  ∀ (ls : Array Slot) (H : Heap) (locs : List Loc), lv.length = nL → lvG base ls lv → cu ≤ B.1 → su ≤ B.2 → cu + hs = h.length → va_P D clAll (ws2 base cy h) H → va_S (fun q => base ≤ q) s.heap H locs → W p l e R s m args below meth c H locs cu su Z (F0 m pc ls (st.map (encW base)))
theorem set_len2 {h : List C2} {q : Nat} {x : C2} {n : Nat} (e : n = h.length) : n = (h.set q x).length := by rw [List.length_set]; exact e
theorem size_of2 {s : State} {D : va_G} {base : Nat} {cy : Nat → ClassId} {A : Nat → Prop} {h : List C2} {H : Heap} {locs : List Loc} {cu hs : Nat} (hP : va_P D clAll (ws2 base cy h) H) (hS : va_S A s.heap H locs) (h2 : H.size ≤ s.heap.size + cu) (h3 : s.heap.size = base + hs) (h4 : cu + hs = h.length) : H.size = base + h.length := by
  rcases Nat.eq_zero_or_pos h.length with z | z
  · have := hS.1
    omega
  · exact size_of hP z h2 h3 h4
section CT5
variable {p : Program} {l : Launch} {e : Env} {R : Room} {s : State} {m : MethodId} {args : Array Value} {below : List Frame} {meth : Method} {c : Code} {D : va_G} {base : Nat} {cy : Nat → ClassId} {o : Nat} {b : ByteArray} {nL hs : Nat} {B : Nat × Nat} {cu su : Nat} {Z : State → Prop} {d : Nat}
variable {pc : Nat} {st : List W2} {h : List C2} {lv : List (Option W2)}
set_option maxHeartbeats 4000000 in
theorem st2_sound (C : Cy p s m args meth c D base cy (fun q => base ≤ q) o b nL) {call : Nat → List W2 → List C2 → Option (List C2)} (HC : HC2 l D base cy d call) (hRf : d + 1 ≤ R.frames) (hRl : 40 * (d + 1) ≤ R.locals) (hB : B.1 ≤ R.cells ∧ B.2 ≤ R.slots) (hin : meth.name = "<init>") (hsz : s.heap.size = base + hs)
    {en : Ent} (hok : okE2 o b pc en = true) {f : Bool} {pc' : Nat} {lv' : List (Option W2)} {st' : List W2} {h' : List C2} {cu' su' : Nat} (hst : st2 call B en pc lv st h cu su = some (f, pc', lv', st', h', cu', su'))
    (k0 : f = false → SW2 p l e R s m args below meth c D base cy nL hs B Z pc' lv' st' h' cu' su')
    (k1 : f = true → ∀ (ls : Array Slot) (H : Heap) (locs : List Loc), decode b pc = .ok (.return_, 1) → cu ≤ B.1 → su ≤ B.2 → va_P D clAll (ws2 base cy h') H → va_S (fun q => base ≤ q) s.heap H locs → W p l e R s m args below meth c H locs cu su Z (F0 m pc ls [])) :
    SW2 p l e R s m args below meth c D base cy nL hs B Z pc lv st h cu su := by
  have CC := C
  obtain ⟨⟨hx, hb, hml⟩, hown, hts, hK, hA, hN⟩ := C
  obtain ⟨⟨ins, n⟩, a, bb, x0, tb⟩ := en
  simp only [okE2, Bool.and_eq_true, decide_eq_true_eq] at hok
  obtain ⟨hd, hok⟩ := hok
  intro ls H locs hlen hlv hcu hsu hch hP hS
  have SZ : ∀ kk, (H.size = base + h.length → W p l e R s m args below meth c H locs cu su kk (F0 m pc ls (st.map (encW base)))) → W p l e R s m args below meth c H locs cu su kk (F0 m pc ls (st.map (encW base))) := fun kk z => W.size fun hz => z (size_of2 hP hS hz hsz hch)
  cases ins <;> try (simp only [st2] at hst; cases hst; done)
  case iconst i =>
    simp only [Bool.and_eq_true, beq_iff_eq, decide_eq_true_eq] at hok
    obtain ⟨rfl, hv⟩ := hok
    simp only [st2] at hst
    cases hst
    exact lv_iconst hx hb hd hv (k0 rfl ls H locs hlen hlv hcu hsu hch hP hS)
  case bipush i =>
    simp only [Bool.and_eq_true, beq_iff_eq, decide_eq_true_eq] at hok
    obtain ⟨rfl, hv⟩ := hok
    simp only [st2] at hst
    cases hst
    exact lv_bipush hx hb hd hv (k0 rfl ls H locs hlen hlv hcu hsu hch hP hS)
  case sipush i =>
    simp only [Bool.and_eq_true, beq_iff_eq, decide_eq_true_eq] at hok
    obtain ⟨rfl, hv⟩ := hok
    simp only [st2] at hst
    cases hst
    exact lv_sipush hx hb hd hv (k0 rfl ls H locs hlen hlv hcu hsu hch hP hS)
  case iload_n i =>
    simp only [Bool.and_eq_true, beq_iff_eq, decide_eq_true_eq] at hok
    obtain ⟨rfl, hv⟩ := hok
    simp only [st2] at hst
    split at hst
    · rename_i v h1
      cases hst
      exact lv_iload_n hx hb hd hv (hlv.2.2 _ _ h1) (k0 rfl ls H locs hlen hlv hcu hsu hch hP hS)
    · cases hst
  case aload_n i =>
    simp only [Bool.and_eq_true, beq_iff_eq, decide_eq_true_eq] at hok
    obtain ⟨rfl, hv⟩ := hok
    simp only [st2] at hst
    split at hst
    · rename_i v h1
      cases hst
      exact lv_aload_n hx hb hd hv (hlv.2.2 _ _ h1) (k0 rfl ls H locs hlen hlv hcu hsu hch hP hS)
    · cases hst
  case istore_n i =>
    simp only [Bool.and_eq_true, beq_iff_eq, decide_eq_true_eq] at hok
    obtain ⟨rfl, hv⟩ := hok
    simp only [st2] at hst
    split at hst
    · rename_i v r
      split at hst
      · rename_i hlt
        cases hst
        exact lv_istore_n hx hb hd hv hlv.has hlt rfl (fun ls' hl' => k0 rfl ls' H locs (by rw [List.length_set]; exact hlen) (lvG.upd (v := .inl v) (fun _ z => z) hl') hcu hsu hch hP hS)
      · cases hst
    · cases hst
  case iinc i z =>
    simp only [Bool.and_eq_true, beq_iff_eq, decide_eq_true_eq] at hok
    obtain ⟨⟨rfl, rfl⟩, hv⟩ := hok
    simp only [st2] at hst
    split at hst
    · rename_i v h1
      cases hst
      have hlt : i < lv.length := (List.getElem?_eq_some_iff.mp h1).1
      refine lv_iinc (k := 0) (lv := (i, .int v) :: ascG base lv) (v := v + x0) hx hb hd ⟨hlv.has.1, hlv.has.2.1, List.forall_mem_cons.mpr ⟨hlv.2.2 _ _ h1, hlv.has.2.2⟩⟩ rfl (by rw [hv]) hlt rfl (fun ls' hl' => k0 rfl ls' H locs (by rw [List.length_set]; exact hlen) (lvG.upd (v := .inl (v + x0)) (L := (i, .int v) :: ascG base lv) (fun _ z => List.mem_cons_of_mem _ z) hl') hcu hsu hch hP hS)
    · cases hst
  case dup =>
    obtain rfl : n = 1 := by simpa using hok
    simp only [st2] at hst
    split at hst
    · rename_i v r
      cases hst
      exact lv_dup hx hb hd (encW_cat base v) (k0 rfl ls H locs hlen hlv hcu hsu hch hP hS)
    · cases hst
  case goto off =>
    simp only [Bool.and_eq_true, beq_iff_eq, decide_eq_true_eq] at hok
    obtain ⟨rfl, hv⟩ := hok
    simp only [st2] at hst
    cases hst
    exact lv_goto hx hb hd hv (k0 rfl ls H locs hlen hlv hcu hsu hch hP hS)
  case if_icmp cnd off =>
    simp only [Bool.and_eq_true, beq_iff_eq, decide_eq_true_eq] at hok
    obtain ⟨rfl, hv⟩ := hok
    cases cnd <;> try (simp only [st2] at hst; cases hst; done)
    · simp only [st2] at hst
      split at hst
      · rename_i y v r
        split at hst
        · rename_i hc
          cases hst
          exact lv_icmp_ge hx hb hd hv (fun z => k0 rfl ls H locs hlen hlv hcu hsu hch hP hS) (fun z => absurd hc z)
        · rename_i hc
          cases hst
          exact lv_icmp_ge hx hb hd hv (fun z => absurd z hc) (fun z => k0 rfl ls H locs hlen hlv hcu hsu hch hP hS)
      · cases hst
    · simp only [st2] at hst
      split at hst
      · rename_i y v r
        split at hst
        · rename_i hc
          cases hst
          exact lv_icmp_gt hx hb hd hv (fun z => k0 rfl ls H locs hlen hlv hcu hsu hch hP hS) (fun z => absurd hc z)
        · rename_i hc
          cases hst
          exact lv_icmp_gt hx hb hd hv (fun z => absurd z hc) (fun z => k0 rfl ls H locs hlen hlv hcu hsu hch hP hS)
      · cases hst
  case new idx =>
    simp only [Bool.and_eq_true, beq_iff_eq, decide_eq_true_eq] at hok
    obtain ⟨rfl, hv⟩ := hok
    simp only [st2] at hst
    split at hst
    · rename_i hc
      cases hst
      refine SZ _ fun hz => ct_new CC hd hv ⟨by omega, by omega⟩ hz hP hS fun H1 hP1 hS1 => k0 rfl ls H1 locs hlen hlv hc.1 hc.2 (by rw [List.length_append]; simp; omega) hP1 hS1
    · cases hst
  case newarray ty =>
    simp only [Bool.and_eq_true, beq_iff_eq, decide_eq_true_eq] at hok
    obtain ⟨⟨rfl, ha⟩, hty⟩ := hok
    simp only [st2] at hst
    split at hst
    · rename_i v r
      split at hst
      · rename_i hc
        cases hst
        refine SZ _ fun hz => ct_newa CC hd ha (by rw [hty]; rcases (show a = 0 ∨ a = 1 ∨ a = 2 by omega) with rfl | rfl | rfl <;> rfl) hc.1 hc.2.1 ⟨by omega, by omega⟩ hz hP hS fun H1 hP1 hS1 => k0 rfl ls H1 locs hlen hlv hc.2.2.1 hc.2.2.2 (by rw [List.length_append]; simp; omega) hP1 hS1
      · cases hst
    · cases hst
  case anewarray idx =>
    simp only [Bool.and_eq_true, beq_iff_eq, decide_eq_true_eq] at hok
    obtain ⟨⟨⟨rfl, h3⟩, h7⟩, hv⟩ := hok
    simp only [st2] at hst
    split at hst
    · rename_i v r
      split at hst
      · rename_i hc
        cases hst
        refine SZ _ fun hz => ct_newq CC hd h3 h7 hv hc.1 hc.2.1 ⟨by omega, by omega⟩ hz hP hS fun H1 hP1 hS1 => k0 rfl ls H1 locs hlen hlv hc.2.2.1 hc.2.2.2 (by rw [List.length_append]; simp; omega) hP1 hS1
      · cases hst
    · cases hst
  case putfield idx =>
    simp only [Bool.and_eq_true, beq_iff_eq, decide_eq_true_eq] at hok
    obtain ⟨⟨rfl, hv⟩, hdc⟩ := hok
    simp only [st2] at hst
    split at hst
    · rename_i v q r
      split at hst
      · rename_i t l0 hq
        split at hst
        · rename_i hc
          obtain ⟨rfl, hc1, hc2⟩ := hc
          cases hst
          exact ct_put CC hin hd hv hdc hq hc1 hc2 hP hS fun H1 locs1 hP1 hS1 => k0 rfl ls H1 locs1 hlen hlv hcu hsu (set_len2 hch) hP1 hS1
        · cases hst
      · cases hst
    · cases hst
  case getfield idx =>
    simp only [Bool.and_eq_true, beq_iff_eq, decide_eq_true_eq] at hok
    obtain ⟨rfl, hv⟩ := hok
    simp only [st2] at hst
    split at hst
    · rename_i q r
      split at hst
      · rename_i t l0 hq
        split at hst
        · rename_i v hv0
          split at hst
          · rename_i hc
            subst hc
            cases hst
            exact ct_get CC hd hv hq hv0 hP (k0 rfl ls H locs hlen hlv hcu hsu hch hP hS)
          · cases hst
        · cases hst
      · cases hst
    · cases hst
  case iastore =>
    obtain rfl : n = 1 := by simpa using hok
    simp only [st2] at hst
    split at hst
    · rename_i z i q r
      split at hst
      · rename_i t l0 hq
        split at hst
        · rename_i hc
          obtain ⟨rfl, hc1, hc2⟩ := hc
          cases hst
          exact ct_ist CC hd hq hc1 hc2 hP hS fun H1 locs1 hP1 hS1 => k0 rfl ls H1 locs1 hlen hlv hcu hsu (set_len2 hch) hP1 hS1
        · cases hst
      · cases hst
    · cases hst
  case castore =>
    obtain rfl : n = 1 := by simpa using hok
    simp only [st2] at hst
    split at hst
    · rename_i z i q r
      split at hst
      · rename_i t l0 hq
        split at hst
        · rename_i hc
          obtain ⟨rfl, hc1, hc2, hc3, hc4⟩ := hc
          cases hst
          exact ct_cst CC hd hq hc1 hc2 hc3 hc4 hP hS fun H1 locs1 hP1 hS1 => k0 rfl ls H1 locs1 hlen hlv hcu hsu (set_len2 hch) hP1 hS1
        · cases hst
      · cases hst
    · cases hst
  case aastore =>
    obtain rfl : n = 1 := by simpa using hok
    simp only [st2] at hst
    split at hst
    · rename_i w i q r
      split at hst
      · rename_i t l0 tw l1 hq hw
        split at hst
        · rename_i hc
          obtain ⟨hc1, hc2, hc3, hc4, hc5⟩ := hc
          cases hst
          exact ct_ast CC hd hc1 hc2 hq hw hc3 hc4 hc5 hP hS fun H1 locs1 hP1 hS1 => k0 rfl ls H1 locs1 hlen hlv hcu hsu (set_len2 hch) hP1 hS1
        · cases hst
      · cases hst
    · cases hst
  case return_ =>
    obtain rfl : n = 1 := by simpa using hok
    simp only [st2] at hst
    split at hst
    · cases hst
      exact k1 rfl ls H locs hd hcu hsu hP hS
    · cases hst
  case invokespecial idx =>
    simp only [Bool.and_eq_true, beq_iff_eq, decide_eq_true_eq, Bool.or_eq_true] at hok
    obtain ⟨rfl, hok⟩ := hok
    simp only [st2] at hst
    split at hst
    · split at hst
      · rename_i q r
        split at hst
        · rename_i hc
          cases hst
          have hv : CTO.any (fun q => q.1 == o && q.2.1 == idx) = true := by
            rcases hok with hok | hok
            · exact hok.2
            · exact absurd hok.1.1 (by decide)
          exact ct_obj CC (by omega) (by omega) hd hv (by rw [catG_sum]; exact hc) (by rw [hlv.1, hlen]) (k0 rfl ls H locs hlen hlv hcu hsu hch hP hS)
        · cases hst
      · cases hst
    · rename_i a2 hne
      split at hst
      · rename_i hc
        obtain ⟨hc1, hc2, hc3, hc4⟩ := hc
        split at hst
        · rename_i q rest hdr
          split at hst
          · rename_i h1 hcall
            split at hst
            · rename_i hl1
              cases hst
              rcases hok with hok | hok
              · exact absurd hok.1 hne
              obtain ⟨⟨hk, rfl⟩, hv⟩ := hok
              have hdd : st = st.take (npC a) ++ .inr (some q) :: rest := by
                have := (List.take_append_drop (npC a + 1 - 1) st).symm
                rw [hdr] at this
                exact this
              have htl : (st.take (npC a)).length = npC a := by rw [List.length_take]; omega
              generalize st.take (npC a) = tk at hdd htl
              subst hdd
              rw [← htl, tk1, List.reverse_append] at hcall
              have hrl : rest.length ≤ 8 := by rw [List.length_append, List.length_cons] at hc2; omega
              have e1 : (tk ++ Sum.inr (some q) :: rest).map (encW base) = ((tk.reverse.map (encW base)).reverse ++ .ref (base + q) :: rest.map (encW base)) := by
                rw [List.map_reverse, List.reverse_reverse, List.map_append]; rfl
              rw [e1] at SZ ⊢
              refine SZ _ fun hz => ct_call CC HC hRf hRl hd hk ?_ (by rw [List.length_reverse, htl]) (by rw [catG_sum]; exact hrl) ⟨by omega, by omega⟩ hz (by rw [hlv.1, hlen]) hcall hP hS fun H1 locs1 hP1 hS1 => ?_
              · rcases hv with hv | hv
                · exact Or.inl hv
                · exact Or.inr hv
              · have := k0 rfl ls H1 locs1 hlen hlv hc3 hc4 (by omega) hP1 hS1
                rw [← htl, dr1] at this
                exact this
            · cases hst
          · cases hst
        · cases hst
      · cases hst
theorem ex2_sound (C : Cy p s m args meth c D base cy (fun q => base ≤ q) o b nL) {call : Nat → List W2 → List C2 → Option (List C2)} (HC : HC2 l D base cy d call) (hRf : d + 1 ≤ R.frames) (hRl : 40 * (d + 1) ≤ R.locals) (hB : B.1 ≤ R.cells ∧ B.2 ≤ R.slots) (hin : meth.name = "<init>") (hsz : s.heap.size = base + hs)
    {T : Tab} (hok : ∀ pc e, cof T pc = some e → okE2 o b pc e = true) {hF : List C2}
    (k1 : ∀ (pc : Nat) (ls : Array Slot) (H : Heap) (locs : List Loc) (cu su : Nat), decode b pc = .ok (.return_, 1) → cu ≤ B.1 → su ≤ B.2 → va_P D clAll (ws2 base cy hF) H → va_S (fun q => base ≤ q) s.heap H locs → W p l e R s m args below meth c H locs cu su Z (F0 m pc ls [])) :
    ∀ (n pc : Nat) (lv : List (Option W2)) (st : List W2) (h : List C2) (cu su : Nat), ex2 call T B n pc lv st h cu su = some hF → SW2 p l e R s m args below meth c D base cy nL hs B Z pc lv st h cu su := by
  intro n
  induction n with
  | zero => intro pc lv st h cu su hh; cases hh
  | succ n ih =>
    intro pc lv st h cu su hh
    simp only [ex2] at hh
    split at hh
    · cases hh
    · rename_i en he
      split at hh
      · cases hh
      · rename_i h1 cu1 su1 hst
        cases hh
        exact st2_sound C HC hRf hRl hB hin hsz (hok _ _ he) hst (fun z => by cases z) (fun _ ls H locs hd g1 g2 g3 g4 => k1 pc ls H locs cu su hd g1 g2 g3 g4)
      · rename_i hst
        exact st2_sound C HC hRf hRl hB hin hsz (hok _ _ he) hst (fun _ => ih _ _ _ _ _ _ hh) (fun z => by cases z)
end CT5
theorem sem2_sound {l : Launch} {D : va_G} {base : Nat} {cy : Nat → ClassId} : ∀ d, HC2 l D base cy d (sem2 d) := by
  intro d
  induction d with
  | zero => intro k av h h' hh; cases hh
  | succ d ih =>
    intro k av h h' hh hk hav
    obtain ⟨w1, w2, w3, w4, w5, w6, w7, w8, w9, w10, w11⟩ := mcf hk
    refine Met.ofW (cc := (CR k).2.2.2.1) (maxL := (CR k).2.2.2.2.1) (ret := none) w4 rfl ?_
    intro p e s m args below meth c s₁ B hml hv
    obtain ⟨rfl, hsz, hP, hK, hN⟩ := hv
    have hts := atoms_spec (ws := wsC k) B.pre
    have hown : s.vm.findClass (CR k).2.2.1.cls = some m.cls := findClass_of_methodNamed B.named
    rw [w3, ← w9] at hown
    have hin : meth.name = "<init>" := (name_of_methodNamed B.named B.method).1.trans w8
    have C : Cy p s m (av.map (encW base)).toArray meth c D base cy (fun q => base ≤ q) (CR k).1 (CR k).2.2.2.1 (CR k).2.2.2.2.1 :=
      ⟨⟨B.exec, B.bytes, hml⟩, hown, fun w hw => hts w (List.mem_cons_of_mem _ hw), hK, fun q hq => hq, hN⟩
    have K := ex2_sound (p := p) (R := (headSpec (wsC k) (rm2 (d + 1) k)).room) (e := e) (below := below) (hs := h.length) (B := bud k) (Z := MQ below (Qc2 D base cy h') (av.map (encW base)).toArray s (bud k).1 (bud k).2 (fun q => base ≤ q)) C ih (Nat.le_refl _) (Nat.le_refl _) ⟨Nat.le_refl _, Nat.le_refl _⟩ hin hsz (T := (CR k).2.2.2.2.2.2) (fun pc e he => ok2_at hk he) (hF := h')
      (fun pc ls H locs cu su hd g1 g2 hP1 hS1 => W.widen g1 g2 (W.vret B.exec B.bytes B.returns (fun t ht _ => ⟨⟨rfl, by rw [ht]; exact hP1⟩, hS1.F ht⟩) hS1.2.2 hd B.notSynchronized))
      400 0 _ [] h 0 0 hh
    have hle : av.length ≤ (CR k).2.2.2.2.1 := by rw [hav]; exact w10
    rw [lg_entry_eq]
    refine K _ s.heap [] (by rw [List.length_append, List.length_map, List.length_replicate]; omega) ?_ (Nat.zero_le _) (Nat.zero_le _) (Nat.zero_add _) hP va_S.rf
    have hc : ∀ v ∈ av.map (encW base), v.category = 1 := by
      intro v hv
      obtain ⟨u, -, rfl⟩ := List.mem_map.mp hv
      exact encW_cat base u
    have hl := lv_entry (av.map (encW base)) (n := (CR k).2.2.2.2.1) (by rw [sl_len _ hc, List.length_map]; exact hle)
    refine ⟨by rw [hl.1, List.length_append, List.length_map, List.length_replicate]; omega, hl.2.1, fun i v hv => ?_⟩
    have hi : av[i]? = some v := by
      by_cases hi : i < av.length
      · rw [List.getElem?_append_left (by rw [List.length_map]; exact hi), List.getElem?_map] at hv
        cases q : av[i]? with
        | none => rw [q] at hv; cases hv
        | some u => rw [q] at hv; cases hv; rfl
      · rw [List.getElem?_append_right (by rw [List.length_map]; omega)] at hv
        have := List.mem_of_getElem? hv
        have := List.eq_of_mem_replicate this
        cases this
    have h1 := args_mem _ 0 hc i (encW base v) (by rw [List.getElem?_map, hi]; rfl)
    rw [Nat.zero_add] at h1
    exact hl.2.2 _ h1
