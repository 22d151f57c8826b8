-- 20.start2: what the statement gives of the start
theorem arrV_ext {cI : ClassId} {N : Nat} {f g : Nat → Value} (h : ∀ j, j < N → f j = g j) : arrV cI N f = arrV cI N g := by
  unfold arrV
  congr 2
  funext j
  exact h j.val j.isLt
theorem Mz_row {k i j : Nat} (h : k ≠ 11) {t : Nat} {l : List W2} (e : h3[num (k, i, j)]? = some (t, l)) : Mz k i j = fun s => w2i (l.getD s (.inl 0)) := by
  funext s
  unfold Mz
  rw [if_neg (fun z => h z.1), e]
theorem conv_P {D : va_G} {base : Nat} {cy : Nat → ClassId} {ad : Id3 → Nat} {H : Heap} {M : Mem} (hP : va_P D clAll (ws2 base cy h3) H) (had : ∀ c, c.1 < 70 → ad c = base + num c) (hM : ∀ k, k < 70 → M k = Mz k) : va_P D clAll (wsM ad cy M) H := by
  intro n q hq
  unfold wsM at hq
  rw [List.getElem?_map] at hq
  cases hc : cids[n]? with
  | none => rw [hc] at hq; cases hq
  | some c =>
    rw [hc] at hq
    cases hq
    have hcm := List.mem_of_getElem? hc
    have hc70 := cid_lt c hcm
    have hk := chk0_ok c hcm
    unfold chk0 at hk
    split at hk
    · rename_i t l e
      have h1 := hP _ _ (ws2_at (base := base) (cy := cy) e)
      rw [← had c hc70] at h1
      by_cases hk11 : kcls c.1 < 11
      · rw [if_pos hk11] at hk
        simp only [Bool.and_eq_true, beq_iff_eq, decide_eq_true_eq] at hk
        obtain ⟨⟨rfl, hl⟩, hr⟩ := hk
        have e1 : encC base cy (kcls c.1, l) = cellE ad cy M c := by
          rw [cell_obj hk11]
          unfold encC
          rw [if_pos hk11, hl, List.map_map]
          refine congrArg (fun z => (Sum.inr (kcls c.1, z) : va_E)) (List.map_congr_left fun s hs => ?_)
          have hg : gfv M c.1 c.2.1 c.2.2 s = gfv Mz c.1 c.2.1 c.2.2 s := gfv_cell (by rw [hM c.1 hc70]) hcm s
          rw [hg]
          have h2 := List.all_eq_true.mp hr s hs
          show encW base (cv (gfv Mz c.1 c.2.1 c.2.2 s)) = _
          cases hgv : gfv Mz c.1 c.2.1 c.2.2 s with
          | inl x => rfl
          | inr d =>
            rw [hgv] at h2
            have hd : d ∈ cids := of_decide_eq_true h2
            rw [enc_cid hd, had d (cid_lt d hd)]
            rfl
        show va_at D clAll (ad c, cellE ad cy M c) H
        rw [← e1]
        exact h1
      · rw [if_neg hk11] at hk
        by_cases ha : aty c.1 < 3
        · rw [if_pos ha] at hk
          simp only [Bool.and_eq_true, beq_iff_eq] at hk
          obtain ⟨⟨rfl, hl⟩, -⟩ := hk
          have e1 : encC base cy (100 + aty c.1, l) = cellE ad cy M c := by
            rw [cell_arr ha]
            unfold encC
            rw [if_neg (by dsimp only; omega), if_pos (by dsimp only; omega)]
            have h11 : c.1 ≠ 11 := by intro z; rw [z] at ha; exact absurd ha (by decide)
            rw [hM c.1 hc70, Mz_row h11 e]
            show Sum.inl (cy (100 + aty c.1 - 100), l.length, _) = _
            rw [show 100 + aty c.1 - 100 = aty c.1 by omega, hl]
          show va_at D clAll (ad c, cellE ad cy M c) H
          rw [← e1]
          exact h1
        · rw [if_neg ha] at hk
          simp only [Bool.and_eq_true, beq_iff_eq, decide_eq_true_eq] at hk
          obtain ⟨⟨rfl, h7⟩, hl⟩ := hk
          have h9 : va_at D clAll (ad c, cellE ad cy M c) H := by
            rw [cell_refs (by omega) h7]
            unfold encC at h1
            rw [if_neg (by dsimp only; omega), if_neg (by dsimp only; omega)] at h1
            have h3 : H[ad c]? = some (vp_cell (cy (100 + aty c.1 - 100)) (l.length, .inr (.inr (.inr (.inr fun j => (w2r (l.getD j (.inr none))).map (base + ·)))))) := h1
            show H[ad c]? = some (vp_cell (cy (aty c.1)) (alen c.1, .inr (.inr (.inr (.inr fun n => some (ad (aref c.1 c.2.1 n)))))))
            have hll : l.length = alen c.1 := by rw [hl, List.length_map, List.length_range]
            rw [h3, show 100 + aty c.1 - 100 = aty c.1 by omega, hll, vp_cell_q, vp_cell_q]
            refine congrArg some (arrV_ext fun j hj => ?_)
            have hd : aref c.1 c.2.1 j ∈ cids := cid_aref c hcm (by omega) j hj
            have e2 : l.getD j (.inr none) = .inr (some (num (aref c.1 c.2.1 j))) := by
              rw [hl, List.getD_eq_getElem?_getD, List.getElem?_map, List.getElem?_range hj]
              rfl
            rw [e2, had _ (cid_lt _ hd)]
            rfl
          exact h9
    · cases hk
def stTm (i : Nat) : Term := .string RX4 (sIdx.getD i 0)
abbrev LF : List Cond := flatC (Jvm.Cond.and given_1 narrow_1)
theorem st_ex : ∀ i, i < 11 → Cond.exactly (stTm i) "java/lang/String" ∈ LF := by decide +kernel
theorem st_co : ∀ i, i < 11 → Cond.eq (.field (stTm i) "java/lang/String" "coder" "B") (.int 0) ∈ LF := by decide +kernel
theorem st_ar : ∀ i, i < 11 → Cond.arrayOf (.field (stTm i) "java/lang/String" "value" "[B") .byte ∈ LF := by decide +kernel
theorem st_le : ∀ i, i < 11 → Cond.eq (.length (.field (stTm i) "java/lang/String" "value" "[B")) (.int (Int32.ofNat (sLenL.getD i 0))) ∈ LF := by decide +kernel
theorem st_el : ∀ i, i < 11 → ∀ j, j < sLenL.getD i 0 → Cond.eq (.elem (.field (stTm i) "java/lang/String" "value" "[B") (.int (Int32.ofNat j))) (.int ((sByt.getD i []).getD j 0)) ∈ LF := by decide +kernel
theorem st_ne : ∀ i, i < 11 → ∀ j, j < 11 → i ≠ j → Cond.not (Cond.eq (stTm i) (stTm j)) ∈ LF ∨ Cond.not (Cond.eq (stTm j) (stTm i)) ∈ LF := by decide +kernel
theorem st_sr : ∀ i, i < 11 → Cond.stringRef RX4 (sIdx.getD i 0) (sTxt.getD i "") ∈ lw_tbl := by decide +kernel
theorem st_sL : ∀ i, i < 11 → sLenL.getD i 0 < 2 ^ 31 := by decide +kernel
theorem st_c1 : Cond.eq (Term.static "java/lang/String" "COMPACT_STRINGS" "Z") (.int 1) ∈ LF := by decide +kernel
theorem st_c2 : Cond.isRef (Term.static "jdk/internal/util/Preconditions" "SIOOBE_FORMATTER" "Ljava/util/function/BiFunction;") ∈ LF := by decide +kernel
theorem st_l1 : Cond.laysStatic "java/lang/String" "COMPACT_STRINGS" "Z" ∈ lw_tbl ∧ Cond.initialized "java/lang/String" ∈ lw_tbl := by decide +kernel
theorem st_l2 : Cond.laysStatic "jdk/internal/util/Preconditions" "SIOOBE_FORMATTER" "Ljava/util/function/BiFunction;" ∈ lw_tbl ∧ Cond.initialized "jdk/internal/util/Preconditions" ∈ lw_tbl := by decide +kernel
theorem st_nw : ∀ q ∈ NSTS, mkM q ∈ lw_tbl ∧ (mkM q).onTables = true := by decide +kernel
theorem st_nc : ∀ q ∈ CTN, mkC q ∈ lw_tbl ∧ (mkC q).onTables = true := by decide +kernel
theorem st_ao : ∀ t, t < 8 → 3 ≤ t → Cond.arrayOver (.object (RO (elc t))) ∈ lw_tbl := by decide +kernel
theorem st_ac : ∀ t, t < 3 → Cond.arrayClass (ety t) ∈ lw_tbl := by decide +kernel
theorem st_in : ∀ k, k < 11 → Cond.instantiable (RO k) (NF k) ∈ lw_tbl := by decide +kernel
theorem kst_start {args : Array Value} {s : State} {A : Nat → Prop} (hgv : (Jvm.Cond.and given_1 narrow_1).before args s = true) (hts : ∀ w ∈ lw_tbl, w.before args s = true) (hA : ∀ a : Nat, a < s.heap.size → ¬ A a) :
    ∃ (adK adV : Nat → Nat) (fm : Value), (fm = .null ∨ ∃ t, fm = .ref t) ∧ ∀ ad : Id3 → Nat, (∀ i, ad (80, i, 0) = adK i) → (∀ i, ad (81, i, 0) = adV i) → KSt ad fm A s s.heap := by
  have hs := flat_of_before _ hgv
  obtain ⟨adK, adV, hk, he⟩ := vk_Sof (tm := stTm) st_sL (fun i hi => hs _ (st_ex i hi)) (fun i hi => hs _ (st_co i hi)) (fun i hi => hs _ (st_ar i hi)) (fun i hi => hs _ (st_le i hi)) (fun i hi j hj => hs _ (st_el i hi j hj)) (fun i j hi hj hne => (st_ne i hi j hj hne).imp (hs _) (hs _)) hA
  have hz1 : va_Z "java/lang/String" "COMPACT_STRINGS" "Z" (.int 1) A s s.heap := va_Zof (hts _ st_l1.1) (hts _ st_l1.2) (va_eqi (hs _ st_c1)) hA
  have hz2 := va_Zqof (A := A) (hts _ st_l2.1) (hts _ st_l2.2) (hs _ st_c2) hA
  have hn : ∀ q ∈ NSTS, va_Nw (mkM q) s := fun q hq => va_Nw.of (st_nw q hq).2 (hts _ (st_nw q hq).1)
  have fin : ∀ fm : Value, va_Z "jdk/internal/util/Preconditions" "SIOOBE_FORMATTER" "Ljava/util/function/BiFunction;" fm A s s.heap → ∀ ad : Id3 → Nat, (∀ i, ad (80, i, 0) = adK i) → (∀ i, ad (81, i, 0) = adV i) → KSt ad fm A s s.heap := by
    intro fm hz ad h1 h2
    have e1 : (fun i => ad (80, i, 0)) = adK := funext h1
    have e2 : (fun i => ad (81, i, 0)) = adV := funext h2
    refine ⟨by rw [e1, e2]; exact hk, fun i hi => ?_, hz1, hz, hn⟩
    rw [h1 i]
    exact vk_R.of (hts _ (st_sr i hi)) (he i hi)
  rcases hz2 with hz | ⟨t, hz⟩
  · exact ⟨adK, adV, .null, Or.inl rfl, fin _ hz⟩
  · exact ⟨adK, adV, .ref t, Or.inr ⟨t, rfl⟩, fin _ hz⟩
theorem cy_start {args : Array Value} {s : State} (hts : ∀ w ∈ lw_tbl, w.before args s = true) : ∃ cy : Nat → ClassId, ∀ t, t < 8 → ArrOfT s (cy t) (ety t) ∧ va_RA s (cy t) (ety t) := by
  have h : ∀ t, ∃ c : ClassId, t < 8 → ArrOfT s c (ety t) ∧ va_RA s c (ety t) := by
    intro t
    by_cases h3 : t < 3
    · obtain ⟨c, k, comp, h1, h2, h4⟩ := Cond.arrayClass_spec (hts _ (st_ac t h3))
      refine ⟨c, fun _ => ⟨fun n z => ⟨fun k => (by intro q; cases q), k, h2, comp, h4⟩, ?_⟩⟩
      rcases (show t = 0 ∨ t = 1 ∨ t = 2 by omega) with rfl | rfl | rfl <;> exact h1
    · by_cases h8 : t < 8
      · obtain ⟨comp, c, k, h1, h2, h4, h5, h6⟩ := Cond.arrayOver_spec (hts _ (st_ao t h8 (by omega)))
        have e : ety t = .object (RO (elc t)) := by
          rcases (show t = 3 ∨ t = 4 ∨ t = 5 ∨ t = 6 ∨ t = 7 by omega) with rfl | rfl | rfl | rfl | rfl <;> rfl
        refine ⟨c, fun _ => ?_⟩
        rw [e]
        exact ⟨fun n z => ⟨fun k => (by intro q; cases q), k, h4, comp, h5⟩, k, comp, h4, h5, h1, h6⟩
      · exact ⟨0, fun z => absurd z h8⟩
  exact ⟨fun t => (h t).choose, fun t ht => (h t).choose_spec ht⟩
theorem D_start {args : Array Value} {s : State} (hts : ∀ w ∈ lw_tbl, w.before args s = true) : ∃ D : va_G, ∀ k, k < 11 → u_Kn s (RO k) (TF k) (NF k) (D.1 k) (D.2 k) := by
  have h : ∀ k, ∃ q : ClassId × (Nat → Nat), k < 11 → u_Kn s (RO k) (TF k) (NF k) q.1 q.2 := by
    intro k
    by_cases hk : k < 11
    · obtain ⟨c, i, h⟩ := u_known (ws := lw_tbl) hts (fun w hw => (uw_all k hk w hw).1) (hts _ (st_in k hk))
      exact ⟨(c, i), fun _ => h⟩
    · exact ⟨(0, fun _ => 0), fun z => absurd z hk⟩
  exact ⟨(fun k => (h k).choose.1, fun k => (h k).choose.2), fun k hk => (h k).choose_spec hk⟩
theorem K_start {args : Array Value} {s : State} (hts : ∀ w ∈ lw_tbl, w.before args s = true) : ∃ (D : va_G) (cy : Nat → ClassId), va_K D clAll (tysA cy) s := by
  obtain ⟨cy, h1⟩ := cy_start hts
  obtain ⟨D, h2⟩ := D_start hts
  refine ⟨D, cy, fun c q hq => ?_, fun k q hq => ?_⟩
  · have hc : c < 11 := (List.getElem?_eq_some_iff.mp hq).1
    rw [cl_at hc] at hq
    cases hq
    exact h2 c hc
  · have hk : k < 8 := (List.getElem?_eq_some_iff.mp hq).1
    rw [tysA_at cy (by omega)] at hq
    cases hq
    exact h1 k hk
