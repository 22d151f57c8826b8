-- 06.sound: the small machine is the machine: worlds, contexts, one step, methods
theorem allw_good {w : Cond} (h : w ∈ ALLW) : (w.onTables && w.keeps) = true ∨ ∃ ty, w = .arrayClass ty := good_of_word (List.mem_filter.mp h).2
theorem goodAll {ws : List Cond} (h : ∀ w ∈ ws, w ∈ ALLW) : GoodIn ALLW ws := fun w hw => ⟨h w hw, allw_good (h w hw)⟩
theorem aw2 {w : Cond} {i : Nat} (h : lw_tbl[i]? = some w ∧ goodWord w = true) : w ∈ ALLW := aw i h.1 h.2
def wsOf (m : Nat) : List Cond := cwM m :: ALLW
theorem cw_in {m : Nat} (h : m < 230) : cwM m ∈ ALLW := List.mem_filter.mpr (cw_ok h)
theorem wsOf_in {m : Nat} (h : m < 230) : ∀ w ∈ wsOf m, w ∈ ALLW := List.forall_mem_cons.mpr ⟨cw_in h, fun _ h => h⟩
def encA (ad : Id3 → Nat) (fm : Value) : AV → Value
  | .inl x => .int x
  | .inr c => if c.1 = 82 then fm else .ref (ad c)
def rm (d : Nat) : Room := { frames := d, cells := 0, slots := 0, locals := 40 * d }
def ety (t : Nat) : FieldType := match t with
  | 0 => .int
  | 1 => .boolean
  | 2 => .char
  | 3 => .object RX0
  | 4 => .object RX3
  | 5 => .object RX7
  | 6 => .object RX5
  | _ => .object RX6
def tysA (cy : Nat → ClassId) : List (ClassId × FieldType) := [(cy 0, ety 0), (cy 1, ety 1), (cy 2, ety 2), (cy 3, ety 3), (cy 4, ety 4), (cy 5, ety 5), (cy 6, ety 6), (cy 7, ety 7)]
theorem tysA_at (cy : Nat → ClassId) {t : Nat} (h : t ≤ 7) : (tysA cy)[t]? = some (cy t, ety t) := by
  rcases (show t = 0 ∨ t = 1 ∨ t = 2 ∨ t = 3 ∨ t = 4 ∨ t = 5 ∨ t = 6 ∨ t = 7 by omega) with rfl | rfl | rfl | rfl | rfl | rfl | rfl | rfl <;> rfl
def cellE (ad : Id3 → Nat) (cy : Nat → ClassId) (M : Mem) (c : Id3) : va_E :=
  if kcls c.1 < 11 then .inr (kcls c.1, (List.range (NF (kcls c.1))).map fun s => encA ad .null (gfv M c.1 c.2.1 c.2.2 s))
  else if aty c.1 < 3 then .inl (cy (aty c.1), alen c.1, .inl (M c.1 c.2.1 c.2.2))
  else .inl (cy (aty c.1), alen c.1, .inr (.inr (.inr (.inr fun n => some (ad (aref c.1 c.2.1 n))))))
def wsM (ad : Id3 → Nat) (cy : Nat → ClassId) (M : Mem) : va_W := cids.map fun c => (ad c, cellE ad cy M c)
def WA (ad : Id3 → Nat) : Nat → Prop := fun q => ∃ c ∈ cids, ad c = q
def sLenL : List Nat := sByt.map List.length
def KSt (ad : Id3 → Nat) (fm : Value) (A : Nat → Prop) (U : State) (H : Heap) : Prop :=
  vk_S 11 sLenL sByt (fun i => ad (80, i, 0)) (fun i => ad (81, i, 0)) A U H ∧ (∀ i, i < 11 → vk_R RX4 (sIdx.getD i 0) (sTxt.getD i "") (ad (80, i, 0)) U) ∧
  va_Z "java/lang/String" "COMPACT_STRINGS" "Z" (.int 1) A U H ∧ va_Z "jdk/internal/util/Preconditions" "SIOOBE_FORMATTER" "Ljava/util/function/BiFunction;" fm A U H ∧ ∀ q ∈ NSTS, va_Nw (mkM q) U
def vAV (V : Prop) : AV → Prop
  | .inl _ => True
  | .inr c => c ∈ cids ∨ (c.1 = 80 ∧ c.2.1 < 11 ∧ c.2.2 = 0) ∨ (c.1 = 81 ∧ c.2.1 < 11 ∧ c.2.2 = 0) ∨ c = (82, 0, 0) ∨ (c = (90, 0, 0) ∧ V)
-- facts of the layout, by the kernel
theorem cid_nd : cids.Nodup := by decide +kernel
theorem cid_lt : ∀ c ∈ cids, c.1 < 70 := by decide +kernel
theorem cid_aref : ∀ c ∈ cids, 3 ≤ aty c.1 → ∀ n, n < alen c.1 → aref c.1 c.2.1 n ∈ cids := by decide +kernel
theorem cid_draft : ∀ t, t < 16 → (9, t, 0) ∈ cids := by decide +kernel
theorem cid_one : ∀ c ∈ cids, c.1 = 11 → c = (11, 0, 0) := by decide +kernel
theorem cid_text : ∀ c ∈ cids, c.1 = 9 → c.2.1 < 16 := by decide +kernel
def refOk (v : AV) : Bool := match v with
  | .inr d => decide (d ∈ cids)
  | .inl _ => true
theorem cid_ref0 : ∀ c ∈ cids, kcls c.1 < 11 → ∀ s, s < NF (kcls c.1) → ¬ (c.1 = 11 ∧ s = 6) → refOk (gfv (fun _ _ _ _ => 0) c.1 c.2.1 c.2.2 s) = true := by decide +kernel
theorem gfv_int {M : Mem} {k i j s : Nat} {x : Int32} (h : gfv M k i j s = .inl x) : x = M k i j s := by
  unfold gfv at h
  split at h <;> first | (cases h; rfl) | (split at h <;> first | (cases h; rfl) | cases h)
theorem gfv_ref {M M' : Mem} {k i j s : Nat} {c : Id3} (h : gfv M k i j s = .inr c) (hn : ¬ (k = 11 ∧ s = 6)) : gfv M' k i j s = .inr c := by
  unfold gfv at h ⊢
  split at h <;> first | (cases h; done) | (split at h <;> first | (cases h; done) | (cases h; rfl) | exact absurd ⟨rfl, rfl⟩ hn)
theorem fld_lt : ∀ q ∈ FLDS, q.2.2.1 < 11 ∧ q.2.2.2.1 < NF q.2.2.1 := by decide +kernel
theorem fty_ok : ∀ q ∈ FLDS, (fty q.2.2.1 q.2.2.2.1 = 0 → (TF q.2.2.1 q.2.2.2.1).2.2.2 = false ∧ tyF q.2.2.1 q.2.2.2.1 = .int) ∧ (fty q.2.2.1 q.2.2.2.1 = 1 → (TF q.2.2.1 q.2.2.2.1).2.2.2 = false ∧ tyF q.2.2.1 q.2.2.2.1 = .boolean) ∧ (fty q.2.2.1 q.2.2.2.1 = 3 → q.2.2.1 = 4 ∧ q.2.2.2.1 = 6 ∧ (TF q.2.2.1 q.2.2.2.1).2.2.2 = false ∧ tyF q.2.2.1 q.2.2.2.1 = .object RX7) := by decide +kernel
theorem cl_at {k : Nat} (h : k < 11) : clAll[k]? = some (RO k, TF k, NF k) := by
  rcases (show k = 0 ∨ k = 1 ∨ k = 2 ∨ k = 3 ∨ k = 4 ∨ k = 5 ∨ k = 6 ∨ k = 7 ∨ k = 8 ∨ k = 9 ∨ k = 10 by omega) with rfl | rfl | rfl | rfl | rfl | rfl | rfl | rfl | rfl | rfl | rfl <;> rfl
theorem ty_at {k : Nat} (h : k < 11) : ∀ s, s < NF k → parseFieldDescriptor (TF k s).2.2.1 = some (tyF k s) := by
  rcases (show k = 0 ∨ k = 1 ∨ k = 2 ∨ k = 3 ∨ k = 4 ∨ k = 5 ∨ k = 6 ∨ k = 7 ∨ k = 8 ∨ k = 9 ∨ k = 10 by omega) with rfl | rfl | rfl | rfl | rfl | rfl | rfl | rfl | rfl | rfl | rfl
  · exact tyX0_ok
  · exact tyX1_ok
  · exact tyX2_ok
  · exact tyX3_ok
  · exact tyX4_ok
  · exact tyX5_ok
  · exact tyX6_ok
  · exact tyX7_ok
  · exact tyX8_ok
  · exact tyX9_ok
  · exact tyX10_ok
theorem nm_at {k : Nat} (h : k < 11) : ∀ a, a < NF k → ∀ b, b < NF k → a ≠ b → (TF k a).2.1 ≠ (TF k b).2.1 := by
  rcases (show k = 0 ∨ k = 1 ∨ k = 2 ∨ k = 3 ∨ k = 4 ∨ k = 5 ∨ k = 6 ∨ k = 7 ∨ k = 8 ∨ k = 9 ∨ k = 10 by omega) with rfl | rfl | rfl | rfl | rfl | rfl | rfl | rfl | rfl | rfl | rfl
  · exact nmX0
  · exact nmX1
  · exact nmX2
  · exact nmX3
  · exact nmX4
  · exact nmX5
  · exact nmX6
  · exact nmX7
  · exact nmX8
  · exact nmX9
  · exact nmX10
theorem uw_all : ∀ k, k < 11 → ∀ w ∈ u_ws (RO k) (TF k) (NF k), w ∈ lw_tbl ∧ goodWord w = true := by decide +kernel
theorem uw_at {k : Nat} (h : k < 11) : ∀ w ∈ u_ws (RO k) (TF k) (NF k), w ∈ ALLW := fun w hw => List.mem_filter.mpr (uw_all k h w hw)
