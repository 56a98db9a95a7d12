/-! THE SMALL MACHINE'S HEAP: cells by number; gi, gl: numbers in cells; gw: the two references that change (the worlds that the network and the stream look at) -/
def lwg : List Cond := lw_tbl.filter goodWord
theorem lwg_of {w : Cond} (i : Nat) (h : lw_tbl[i]? = some w) (hg : goodWord w = true) : w ∈ lwg := List.mem_filter.mpr ⟨List.mem_of_getElem? h, hg⟩
theorem lwg_good {ws : List Cond} (h : ∀ w ∈ ws, w ∈ lwg) : GoodIn lwg ws := fun w hw => ⟨h w hw, good_of_word (List.mem_filter.mp (h w hw)).2⟩
abbrev HP : Type := (Nat → Nat → Int32) × (Nat → Nat → Int64) × (Nat → Nat)
def gi (h : HP) (a k : Nat) : Int32 := h.1 a k
def gl (h : HP) (a k : Nat) : Int64 := h.2.1 a k
def gw (h : HP) (k : Nat) : Nat := h.2.2 k
def si (h : HP) (a k : Nat) (v : Int32) : HP := (fun x j => if x = a ∧ j = k then v else h.1 x j, h.2.1, h.2.2)
def sl (h : HP) (a k : Nat) (v : Int64) : HP := (h.1, fun x j => if x = a ∧ j = k then v else h.2.1 x j, h.2.2)
def sw (h : HP) (k v : Nat) : HP := (h.1, h.2.1, fun j => if j = k then v else h.2.2 j)
def cpi (h : HP) (a b sp dp n : Nat) : HP := (fun x j => if x = b ∧ dp ≤ j ∧ j < dp + n then h.1 a (sp + (j - dp)) else h.1 x j, h.2.1, h.2.2)
def cpl (h : HP) (a b sp dp n : Nat) : HP := (h.1, fun x j => if x = b ∧ dp ≤ j ∧ j < dp + n then h.2.1 a (sp + (j - dp)) else h.2.1 x j, h.2.2)
/-- what a cell is: 0 to 8 an object of that class of vwCl, 10 ints, 11 chars, 12 longs, 13 stations, 14 lines, 15 sheets; and an array's length -/
def ktW : List (Nat × Nat) := [(6, 0), (13, 6), (14, 10), (3, 0), (3, 0), (3, 0), (3, 0), (3, 0), (3, 0), (0, 0), (10, 16), (0, 0), (10, 16), (0, 0), (10, 16), (0, 0), (10, 16), (0, 0), (10, 16), (0, 0), (10, 16), (0, 0), (10, 16), (0, 0), (10, 16), (0, 0), (10, 16), (0, 0), (10, 16)]
def ktN : List (Nat × Nat) := [(1, 0), (10, 152), (10, 1068), (10, 1068), (10, 1068), (10, 534), (10, 152), (10, 152), (10, 152), (10, 152), (10, 152), (4, 0), (10, 121), (10, 10), (10, 10), (10, 6), (10, 6), (5, 0), (10, 120), (15, 4), (10, 8), (2, 0), (12, 40), (2, 0), (12, 40), (2, 0), (12, 40), (2, 0), (12, 40)]
def ktM : List (Nat × Nat) := [(8, 0), (10, 8), (10, 6), (10, 6), (10, 6), (10, 80), (10, 10), (10, 160), (10, 250), (10, 150), (10, 150), (10, 150), (10, 150), (10, 250), (10, 10), (10, 150), (10, 150), (10, 10), (10, 6), (10, 6), (10, 121), (10, 120), (11, 128), (10, 4), (10, 4), (12, 160), (12, 40), (10, 280), (10, 280)]
def kt : List (Nat × Nat) := (7, 0) :: (ktW ++ (ktW ++ (ktW ++ (ktN ++ ktM))))
theorem kt_len : kt.length = 146 := by decide +kernel
def kd (i : Nat) : Nat := (kt.getD i (99, 0)).1
def kn (i : Nat) : Nat := (kt.getD i (99, 0)).2
theorem kd_lt {i c : Nat} (h : kd i = c) (hc : c ≠ 99) : i < 146 := by
  apply Decidable.byContradiction
  intro hi
  apply hc
  rw [← h]
  unfold kd
  rw [List.getD_eq_getElem?_getD, List.getElem?_eq_none (by rw [kt_len]; omega)]
  rfl
/-- the fields of a class: 0 a number, 1 and 2 the worlds of network and stream, n + 3 the cell n further on -/
def fc : Nat → List Nat
  | 0 => [0, 0, 0, 0, 0, 0, 0, 0, 0, 4]
  | 1 => [1, 0, 0, 0, 0, 0, 0, 4, 5, 6, 7, 8, 9, 10, 11, 12, 13]
  | 2 => [4, 0, 0]
  | 3 => [0, 0, 0]
  | 4 => [2, 4, 0, 5, 6, 7, 8]
  | 5 => [4, 0, 0, 0, 0, 0, 0]
  | 6 => [0, 0, 0, 0, 4, 5]
  | 7 => [4, 33, 62, 91, 102, 108, 110, 111, 0]
  | 8 => [4, 0, 0, 0, 5, 6, 7, 0, 8, 9, 10, 11, 12, 13, 14, 15, 16, 17, 18, 19, 0, 20, 21, 22, 23, 24, 0, 0, 0, 0, 0, 25, 0, 26, 27, 28, 29, 30, 31, 0]
  | _ => []
/-- what is given from outside: where the new cells begin, the heap at the law's start, class numbers and slots, array classes, addresses of what isn't ours, the script, the launch -/
abbrev GE : Type := Nat × Heap × (Nat → ClassId) × (Nat → Nat → Nat) × (Nat → ClassId) × (Nat → Nat) × (Nat × (Nat → Int32)) × Launch
def gB (g : GE) : Nat := g.1
def gH (g : GE) : Heap := g.2.1
def gC (g : GE) : Nat → ClassId := g.2.2.1
def gS (g : GE) : Nat → Nat → Nat := g.2.2.2.1
def gA (g : GE) : Nat → ClassId := g.2.2.2.2.1
def gF (g : GE) : Nat → Nat := g.2.2.2.2.2.1
def gX (g : GE) : Nat × (Nat → Int32) := g.2.2.2.2.2.2.1
def gL (g : GE) : Launch := g.2.2.2.2.2.2.2
def adr (g : GE) (i : Nat) : Nat := if i < 5000 then gB g + i else gF g (i - 5000)
def cv (g : GE) : Value → Value
  | .ref a => .ref (adr g a)
  | v => v
def fv (g : GE) (h : HP) (i k : Nat) : Nat → Value
  | 0 => .int (gi h i k)
  | 1 => if gw h 0 = 0 then .null else .ref (gB g + gw h 0)
  | 2 => if gw h 1 = 0 then .null else .ref (gB g + gw h 1)
  | n + 3 => .ref (gB g + (i + n))
def objF (g : GE) (h : HP) (i : Nat) (cs : List Nat) : List Value := cs.mapIdx (fun k c => fv g h i k c)
def cellE (g : GE) (h : HP) (i : Nat) : va_E :=
  if kd i < 10 then .inr (kd i, objF g h i (fc (kd i)))
  else if kd i = 10 then .inl (gA g 0, kn i, .inl (gi h i))
  else if kd i = 11 then .inl (gA g 1, kn i, .inl (gi h i))
  else if kd i = 12 then .inl (gA g 2, kn i, .inr (.inl (gl h i)))
  else if kd i = 13 then .inl (gA g 3, kn i, .inr (.inr (.inr (.inr (fun j => some (gB g + (i + 2 + j)))))))
  else if kd i = 14 then .inl (gA g 4, kn i, .inr (.inr (.inr (.inr (fun j => some (gB g + (i + 7 + 2 * j)))))))
  else .inl (gA g 5, kn i, .inr (.inr (.inr (.inr (fun j => some (gB g + (i + 2 + 2 * j)))))))
def wd (g : GE) (h : HP) : va_W := (List.range 146).map (fun i => (gB g + i, cellE g h i))
theorem wd_get {g : GE} {h : HP} {i : Nat} (hi : i < 146) : (wd g h)[i]? = some (gB g + i, cellE g h i) := by
  simp [wd, hi]
theorem wd_D (g : GE) (h : HP) : va_D (fun q => gB g ≤ q) (wd g h) := by
  have key : ∀ (i : Nat) (p : Nat × va_E), (wd g h)[i]? = some p → p.1 = gB g + i := by
    intro i p hp
    simp only [wd, List.getElem?_map, Option.map_eq_some_iff] at hp
    obtain ⟨a, h1, h2⟩ := hp
    have h3 : a = i := by
      have := List.getElem?_eq_some_iff.mp h1
      obtain ⟨h4, h5⟩ := this
      simp at h5
      exact h5.symm
    rw [← h2, h3]
  refine ⟨fun i j p q hi hj e => ?_, fun k q hk => ?_⟩
  · have h1 := key i p hi
    have h2 := key j q hj
    omega
  · have h1 := key k q hk
    omega
theorem wd_set {g : GE} {h h' : HP} {i : Nat} {e : va_E} (he : cellE g h' i = e) (ho : ∀ j, j < 146 → j ≠ i → cellE g h' j = cellE g h j) : (wd g h).set i (gB g + i, e) = wd g h' := by
  apply List.ext_getElem?
  intro j
  by_cases hj : j = i
  · subst hj
    by_cases hl : j < 146
    · rw [List.getElem?_set_self (by simpa [wd] using hl), wd_get hl, he]
    · rw [List.getElem?_eq_none (by simp [wd]; omega), List.getElem?_eq_none (by simp [wd]; omega)]
  · rw [List.getElem?_set_ne (fun q => hj q.symm)]
    by_cases hl : j < 146
    · rw [wd_get hl, wd_get hl, ho j hl hj]
    · rw [List.getElem?_eq_none (by simp [wd]; omega), List.getElem?_eq_none (by simp [wd]; omega)]
abbrev frA (g : GE) : Nat → Prop := fun q => gB g ≤ q
abbrev tysG (g : GE) : List (ClassId × FieldType) := [(gA g 0, .int), (gA g 1, .char), (gA g 2, .long), (gA g 3, .object RX3), (gA g 4, .object RX0), (gA g 5, .object RX2)]
def luT (j : Nat) : Int32 := ([-1, 0, 0, 1, 2, 0] : List Int32).getD j 0
def suT (j : Nat) : Int32 := ([-1, 0, 0, 1] : List Int32).getD j 0
/-- the world: the cells hold what h says, nothing old has changed -/
def Rep (g : GE) (h : HP) (H : Heap) : Prop := va_P (gC g, gS g) vwCl (wd g h) H ∧ gB g ≤ H.size ∧ ∀ q, q < gB g → H[q]? = (gH g)[q]?
def nmS : List (Nat × String) := [(72, "yard"), (74, "shed"), (76, "quay"), (78, "vault"), (80, "road"), (82, "rail"), (84, "ferry"), (86, "express"), (88, "barge"), (90, "pass"), (113, "stock"), (119, "store"), (140, "wide"), (147, "long"), (151, "tide"), (155, "later")]
def leS : List Nat := [4, 4, 4, 5, 4, 4, 5, 7, 5, 4, 5, 5, 4, 4, 4, 5]
def byS : List (List Int32) := [[121, 97, 114, 100], [115, 104, 101, 100], [113, 117, 97, 121], [118, 97, 117, 108, 116], [114, 111, 97, 100], [114, 97, 105, 108], [102, 101, 114, 114, 121], [101, 120, 112, 114, 101, 115, 115], [98, 97, 114, 103, 101], [112, 97, 115, 115], [115, 116, 111, 99, 107], [115, 116, 111, 114, 101], [119, 105, 100, 101], [108, 111, 110, 103], [116, 105, 100, 101], [108, 97, 116, 101, 114]]
/-- what isn't ours and never changes: the script, two static rows, texts -/
def FR (g : GE) (U : State) : Prop :=
  va_X (gF g 0) (gX g).1 (gX g).2 U (gH g) ∧ gF g 0 < gB g ∧ (gH g).size = gB g ∧
  va_T .int (gF g 1) 6 (fun j => .int (luT j)) (frA g) U (gH g) ∧ va_T .int (gF g 2) 4 (fun j => .int (suT j)) (frA g) U (gH g) ∧
  va_Z RX7 "LINE_UNDER" "[I" (.ref (gF g 1)) (frA g) U (gH g) ∧ va_Z RX7 "STATION_UNDER" "[I" (.ref (gF g 2)) (frA g) U (gH g) ∧
  va_Z "java/lang/String" "COMPACT_STRINGS" "Z" (.int 1) (frA g) U (gH g) ∧
  (va_Z "jdk/internal/util/Preconditions" "SIOOBE_FORMATTER" "Ljava/util/function/BiFunction;" .null (frA g) U (gH g) ∨ va_Z "jdk/internal/util/Preconditions" "SIOOBE_FORMATTER" "Ljava/util/function/BiFunction;" (.ref (gF g 3)) (frA g) U (gH g)) ∧
  vk_S 16 leS byS (fun i => gF g (1000 + i)) (fun i => gF g (2000 + i)) (frA g) U (gH g)
def FT (g : GE) (U : State) : Prop := ∀ i, i < 16 → vk_R RX5 (nmS.getD i (0, "")).1 (nmS.getD i (0, "")).2 (gF g (1000 + i)) U
def nmN : List (String × Nat) := [(RX6, 45), (RX4, 72), (RX5, 61)]
def FN (U : State) : Prop := ∀ q ∈ nmN, va_Nw (.methodLinkNest q.1 q.2 yX7_isIn RX7) U
def FZ (g : GE) (U : State) : Prop := va_K (gC g, gS g) vwCl (tysG g) U ∧ FR g U ∧ FT g U ∧ FN U
theorem FZ.warm {g : GE} {s U : State} (hW : s.WarmedH U.vm) (h : FZ g s) : FZ g U := by
  have hvm := hW.alike
  obtain ⟨h1, ⟨a1, a2, a3, a4, a5, a6, a7, a8, a9, a10⟩, h3, h4⟩ := h
  exact ⟨va_K.moved hvm h1, ⟨a1.moved hvm, a2, a3, a4.moved hvm, a5.moved hvm, a6.moved hvm, a7.moved hvm, a8.moved hvm, a9.imp (fun q => q.moved hvm) (fun q => q.moved hvm), a10.moved hvm⟩, fun i hi => (h3 i hi).warm hW, fun q hq => va_Nw.warmM hW (h4 q hq)⟩
theorem FZ.same {g : GE} {s U : State} (hv : U.vm = s.vm) (h : FZ g s) : FZ g U := by
  have hvm : s.vm.Alike U.vm := by rw [hv]; exact Vm.Alike.refl s.vm
  obtain ⟨h1, ⟨a1, a2, a3, a4, a5, a6, a7, a8, a9, a10⟩, h3, h4⟩ := h
  exact ⟨va_K.moved hvm h1, ⟨a1.moved hvm, a2, a3, a4.moved hvm, a5.moved hvm, a6.moved hvm, a7.moved hvm, a8.moved hvm, a9.imp (fun q => q.moved hvm) (fun q => q.moved hvm), a10.moved hvm⟩, fun i hi => (h3 i hi).same hv, fun q hq => va_Nw.same rfl hv.symm (h4 q hq)⟩
/-- a method: frames and words that it needs below it, its class, bytes, places of locals, answer, name -/
abbrev MD : Type := (Nat × Nat) × String × ByteArray × Nat × Option FieldType × MethodName
def dF (d : MD) : Nat := d.1.1
def dW (d : MD) : Nat := d.1.2
def dO (d : MD) : String := d.2.1
def dB (d : MD) : ByteArray := d.2.2.1
def dN (d : MD) : Nat := d.2.2.2.1
def dR (d : MD) : Option FieldType := d.2.2.2.2.1
def dY (d : MD) : MethodName := d.2.2.2.2.2
def LV (g : GE) (lsr : Array Slot) (nL : Nat) (ls : List (Option Value)) : Prop := lsr.size = nL ∧ lv_wf lsr ∧ ∀ (i : Nat) (v : Value), ls[i]? = some (some v) → lsr[i]? = some (.val (cv g v))
def LO (g : GE) (locs : List Loc) : Prop := ∀ q ∈ locs, gB g ≤ q.base
def CX (g : GE) (d : MD) (p : Program) (R : Room) (s : State) (m : MethodId) (args : Array Value) (c : Code) (cells slots : Nat) : Prop :=
  p.tables.exec = Jvm.exec ∧ c.code = dB d ∧ c.maxLocals = dN d ∧ s.vm.findClass (dO d) = some m.cls ∧ (∀ w ∈ lwg, w.before args s = true) ∧ FZ g s ∧ dF d ≤ R.frames ∧ dW d ≤ R.locals ∧ cells ≤ R.cells ∧ slots ≤ R.slots
/-- an answer as its type keeps it -/
def RV (d : MD) : Option Value → Prop
  | none => dR d = none
  | some (.int v) => ∃ ty, dR d = some ty ∧ narrow ty (.int v) = .int v
  | some (.long _) => dR d = some .long
  | _ => False
def RD (d : MD) (pc : Nat) : Option Value → Prop
  | none => decode (dB d) pc = .ok (.return_, 1)
  | some (.int _) => decode (dB d) pc = .ok (.ireturn, 1)
  | some (.long _) => decode (dB d) pc = .ok (.lreturn, 1)
  | _ => False
/-- THE SMALL MACHINE: from pc, locals ls, stack st, heap h, the method comes to an end with Q -/
def Wm (g : GE) (d : MD) (pc : Nat) (ls : List (Option Value)) (st : List Value) (h : HP) (Q : Option Value → HP → Prop) : Prop :=
  ∀ (p : Program) (e : Env) (R : Room) (s : State) (m : MethodId) (args : Array Value) (below : List Frame) (meth : Method) (c : Code) (cells slots : Nat) (Qf : State → Prop),
    CX g d p R s m args c cells slots →
    (∀ (pc' : Nat) (lsr' : Array Slot) (H' : Heap) (locs' : List Loc) (r : Option Value) (h' : HP), Q r h' → Rep g h' H' → LO g locs' → RV d r → RD d pc' r → W p (gL g) e R s m args below meth c H' locs' cells slots Qf (F0 m pc' lsr' (r.toList.map (cv g)))) →
    ∀ (H : Heap) (locs : List Loc) (lsr : Array Slot), Rep g h H → LO g locs → LV g lsr (dN d) ls → W p (gL g) e R s m args below meth c H locs cells slots Qf (F0 m pc lsr (st.map (cv g)))
/-- locals as the kit lists them -/
def lm (g : GE) (ls : List (Option Value)) : List (Nat × Value) := ls.zipIdx.filterMap (fun q => q.1.map (fun v => (q.2, cv g v)))
theorem lm_mem {g : GE} {ls : List (Option Value)} {i : Nat} {w : Value} : (i, w) ∈ lm g ls ↔ ∃ v, ls[i]? = some (some v) ∧ w = cv g v := by
  simp only [lm, List.mem_filterMap, Prod.exists, Option.map_eq_some_iff, Prod.mk.injEq]
  constructor
  · rintro ⟨a, b, h1, v, rfl, rfl, rfl⟩
    have := List.mem_zipIdx_iff_getElem?.mp h1
    exact ⟨v, this, rfl⟩
  · rintro ⟨v, h1, rfl⟩
    exact ⟨some v, i, List.mem_zipIdx_iff_getElem?.mpr h1, v, rfl, rfl, rfl⟩
theorem LV.has {g : GE} {lsr : Array Slot} {nL : Nat} {ls : List (Option Value)} (h : LV g lsr nL ls) : lv_has lsr nL (lm g ls) := by
  refine ⟨h.1, h.2.1, fun q hq => ?_⟩
  obtain ⟨i, w⟩ := q
  obtain ⟨v, h1, rfl⟩ := lm_mem.mp hq
  exact h.2.2 i v h1
theorem cv_cat (g : GE) (v : Value) : (cv g v).category = v.category := by cases v <;> rfl
/-- storing a value of one place -/
theorem LV.put1 {g : GE} {lsr : Array Slot} {nL : Nat} {ls : List (Option Value)} {i : Nat} {v : Value} (hl : lv_has lsr nL ((i, cv g v) :: (lm g ls).filter (fun q => !(q.1 == i) && !(q.1 + 1 == i && q.2.category == 2)))) (hn : ∀ (j : Nat) (w : Value), j + 1 = i → ls[j]? = some (some w) → w.category = 1) : LV g lsr nL (ls.set i (some v)) := by
  refine ⟨hl.1, hl.2.1, fun j w hj => ?_⟩
  by_cases e : j = i
  · subst e
    have h1 := List.getElem?_eq_some_iff.mp hj
    obtain ⟨h2, h3⟩ := h1
    rw [List.getElem_set_self] at h3
    cases h3
    exact hl.2.2 (j, cv g v) List.mem_cons_self
  · rw [List.getElem?_set_ne (fun q => e q.symm)] at hj
    refine hl.2.2 (j, cv g w) (List.mem_cons_of_mem _ (List.mem_filter.mpr ⟨lm_mem.mpr ⟨w, hj, rfl⟩, ?_⟩))
    simp only [Bool.and_eq_true, Bool.not_eq_true', beq_eq_false_iff_ne, ne_eq, Bool.and_eq_false_iff]
    refine ⟨e, ?_⟩
    by_cases e2 : j + 1 = i
    · right
      show ¬ (cv g w).category = 2
      rw [cv_cat, hn j w e2 hj]
      decide
    · exact Or.inl e2
/-- storing a value of two places -/
theorem LV.put2 {g : GE} {lsr : Array Slot} {nL : Nat} {ls : List (Option Value)} {i : Nat} {v : Value} (hl : lv_has lsr nL ((i, cv g v) :: (lm g ls).filter (fun q => !(q.1 == i) && (!(q.1 == i + 1) && !(q.1 + 1 == i && q.2.category == 2))))) (hn : ∀ (j : Nat) (w : Value), j + 1 = i → ls[j]? = some (some w) → w.category = 1) : LV g lsr nL ((ls.set i (some v)).set (i + 1) none) := by
  refine ⟨hl.1, hl.2.1, fun j w hj => ?_⟩
  by_cases e1 : j = i + 1
  · subst e1
    have h1 := List.getElem?_eq_some_iff.mp hj
    obtain ⟨h2, h3⟩ := h1
    rw [List.getElem_set_self] at h3
    cases h3
  · rw [List.getElem?_set_ne (fun q => e1 q.symm)] at hj
    by_cases e : j = i
    · subst e
      have h1 := List.getElem?_eq_some_iff.mp hj
      obtain ⟨h2, h3⟩ := h1
      rw [List.getElem_set_self] at h3
      cases h3
      exact hl.2.2 (j, cv g v) List.mem_cons_self
    · rw [List.getElem?_set_ne (fun q => e q.symm)] at hj
      refine hl.2.2 (j, cv g w) (List.mem_cons_of_mem _ (List.mem_filter.mpr ⟨lm_mem.mpr ⟨w, hj, rfl⟩, ?_⟩))
      simp only [Bool.and_eq_true, Bool.not_eq_true', beq_eq_false_iff_ne, ne_eq, Bool.and_eq_false_iff]
      refine ⟨e, e1, ?_⟩
      by_cases e2 : j + 1 = i
      · right
        show ¬ (cv g w).category = 2
        rw [cv_cat, hn j w e2 hj]
        decide
      · exact Or.inl e2
/-- one step: what the machine does, said once for all -/
theorem wm_of {g : GE} {d : MD} {pc pc' : Nat} {ls ls' : List (Option Value)} {st st' : List Value} {h h' : HP} {Q : Option Value → HP → Prop}
    (step : ∀ (p : Program) (e : Env) (R : Room) (s : State) (m : MethodId) (args : Array Value) (below : List Frame) (meth : Method) (c : Code) (cells slots : Nat) (Qf : State → Prop),
      CX g d p R s m args c cells slots → ∀ (H : Heap) (locs : List Loc) (lsr : Array Slot), Rep g h H → LO g locs → LV g lsr (dN d) ls →
      (∀ (H' : Heap) (locs' : List Loc) (lsr' : Array Slot), Rep g h' H' → LO g locs' → LV g lsr' (dN d) ls' → W p (gL g) e R s m args below meth c H' locs' cells slots Qf (F0 m pc' lsr' (st'.map (cv g)))) →
      W p (gL g) e R s m args below meth c H locs cells slots Qf (F0 m pc lsr (st.map (cv g))))
    (k : Wm g d pc' ls' st' h' Q) : Wm g d pc ls st h Q := by
  intro p e R s m args below meth c cells slots Qf X RET H locs lsr hR hL hV
  exact step p e R s m args below meth c cells slots Qf X H locs lsr hR hL hV (fun H' locs' lsr' r1 r2 r3 => k p e R s m args below meth c cells slots Qf X RET H' locs' lsr' r1 r2 r3)
/-- fewer locals known -/
theorem wm_drop {g : GE} {d : MD} {pc : Nat} {ls : List (Option Value)} {st : List Value} {h : HP} {Q : Option Value → HP → Prop} (ls' : List (Option Value)) (hs : ∀ (i : Nat) (v : Value), ls'[i]? = some (some v) → ls[i]? = some (some v)) (k : Wm g d pc ls' st h Q) : Wm g d pc ls st h Q := by
  intro p e R s m args below meth c cells slots Qf X RET H locs lsr hR hL hV
  exact k p e R s m args below meth c cells slots Qf X RET H locs lsr hR hL ⟨hV.1, hV.2.1, fun i v q => hV.2.2 i v (hs i v q)⟩
theorem wm_mono {g : GE} {d : MD} {pc : Nat} {ls : List (Option Value)} {st : List Value} {h : HP} {Q Q' : Option Value → HP → Prop} (k : Wm g d pc ls st h Q) (hq : ∀ r h', Q r h' → Q' r h') : Wm g d pc ls st h Q' := by
  intro p e R s m args below meth c cells slots Qf X RET H locs lsr hR hL hV
  exact k p e R s m args below meth c cells slots Qf X (fun pc' lsr' H' locs' r h' q => RET pc' lsr' H' locs' r h' (hq r h' q)) H locs lsr hR hL hV
/-- a return -/
theorem wm_ret {g : GE} {d : MD} {pc : Nat} {ls : List (Option Value)} {h : HP} {Q : Option Value → HP → Prop} (r : Option Value) (hd : RD d pc r) (hv : RV d r) (hq : Q r h) : Wm g d pc ls r.toList h Q := by
  intro p e R s m args below meth c cells slots Qf X RET H locs lsr hR hL hV
  exact RET pc lsr H locs r h hq hR hL hv hd
