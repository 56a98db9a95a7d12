/-! CONSTRUCTION: cells come one behind another; how far a cell is made up stands in q -/
abbrev PG : Type := Nat → Nat
def upP (q : PG) (i x : Nat) : PG := fun j => if j = i then x else q j
theorem upP_s {q : PG} {i x : Nat} : upP q i x i = x := if_pos rfl
theorem upP_n {q : PG} {i x j : Nat} (h : j ≠ i) : upP q i x j = q j := if_neg h
theorem upP_u {q : PG} {i x y : Nat} : upP (upP q i x) i y = upP q i y := by
  funext j
  unfold upP
  by_cases h : j = i
  · rw [if_pos h, if_pos h]
  · rw [if_neg h, if_neg h, if_neg h]
def rfA (i j : Nat) : Nat := if kd i = 13 then i + 2 + j else if kd i = 14 then i + 7 + 2 * j else i + 2 + 2 * j
def pfv (g : GE) (h : HP) (i x k : Nat) : Nat → Value
  | 0 => .int (gi h i k)
  | 1 => .null
  | 2 => .null
  | n + 3 => if k < x then .ref (gB g + (i + n)) else .null
def pobj (g : GE) (h : HP) (i x : Nat) (cs : List Nat) : List Value := cs.mapIdx (fun k c => pfv g h i x k c)
def pcell (g : GE) (h : HP) (q : PG) (i : Nat) : va_E :=
  if kd i < 10 then .inr (kd i, pobj g h i (q i) (fc (kd i)))
  else if kd i = 10 then .inl (gA g 0, kn i, .inl (gi h i))
  else if kd i = 11 then .inl (gA g 1, kn i, .inl (gi h i))
  else if kd i = 12 then .inl (gA g 2, kn i, .inr (.inl (gl h i)))
  else .inl (gA g (kd i - 10), kn i, .inr (.inr (.inr (.inr (fun j => if j < q i then some (gB g + rfA i j) else none)))))
def wp (g : GE) (h : HP) (q : PG) (n : Nat) : va_W := (List.range n).map (fun i => (gB g + i, pcell g h q i))
section Mk
variable {g : GE} {h h' : HP} {q q' : PG} {n i : Nat}
theorem wp_get (hi : i < n) : (wp g h q n)[i]? = some (gB g + i, pcell g h q i) := by simp [wp, hi]
theorem wp_D : va_D (fun z => gB g ≤ z) (wp g h q n) := by
  have key : ∀ (i : Nat) (p : Nat × va_E), (wp g h q n)[i]? = some p → p.1 = gB g + i := by
    intro i p hp
    simp only [wp, List.getElem?_map, Option.map_eq_some_iff] at hp
    obtain ⟨a, h1, h2⟩ := hp
    have h3 : a = i := by
      have := List.getElem?_eq_some_iff.mp h1
      obtain ⟨h4, h5⟩ := this
      simp at h5
      exact h5.symm
    rw [← h2, h3]
  refine ⟨fun i j p q hi hj e => ?_, fun k q hk => ?_⟩
  · have h1 := key i p hi
    have h2 := key j q hj
    omega
  · have h1 := key k q hk
    omega
theorem wp_len : (wp g h q n).length = n := by simp [wp]
theorem wp_set {e : va_E} (he : pcell g h' q' i = e) (ho : ∀ j, j < n → j ≠ i → pcell g h' q' j = pcell g h q j) : (wp g h q n).set i (gB g + i, e) = wp g h' q' n := by
  apply List.ext_getElem?
  intro j
  by_cases hj : j = i
  · subst hj
    by_cases hl : j < n
    · rw [List.getElem?_set_self (by rw [wp_len]; exact hl), wp_get hl, he]
    · rw [List.getElem?_eq_none (by rw [List.length_set, wp_len]; omega), List.getElem?_eq_none (by rw [wp_len]; omega)]
  · rw [List.getElem?_set_ne (fun q => hj q.symm)]
    by_cases hl : j < n
    · rw [wp_get hl, wp_get hl, ho j hl hj]
    · rw [List.getElem?_eq_none (by rw [wp_len]; omega), List.getElem?_eq_none (by rw [wp_len]; omega)]
theorem wp_push {e : va_E} (he : pcell g h' q' n = e) (ho : ∀ j, j < n → pcell g h' q' j = pcell g h q j) : wp g h q n ++ [(gB g + n, e)] = wp g h' q' (n + 1) := by
  unfold wp
  rw [List.range_succ, List.map_append]
  congr 1
  · apply List.map_congr_left
    intro j hj
    rw [ho j (List.mem_range.mp hj)]
  · show [(gB g + n, e)] = [(gB g + n, pcell g h' q' n)]
    rw [he]
theorem pcell_q (e : q' i = q i) : pcell g h q' i = pcell g h q i := by unfold pcell; rw [e]
theorem pcell_h (e1 : ∀ k, gi h' i k = gi h i k) (e2 : ∀ k, gl h' i k = gl h i k) : pcell g h' q i = pcell g h q i := by
  have a1 : gi h' i = gi h i := funext e1
  have a2 : gl h' i = gl h i := funext e2
  have a3 : ∀ cs, pobj g h' i (q i) cs = pobj g h i (q i) cs := by
    intro cs
    unfold pobj
    congr 1
    funext k c
    match c with
    | 0 => show Value.int (gi h' i k) = Value.int (gi h i k); rw [e1]
    | 1 => rfl
    | 2 => rfl
    | m + 3 => rfl
  unfold pcell
  rw [a1, a2, a3]
theorem pcell_obj {ci : Nat} (hk : kd i = ci) (hc : ci < 10) : pcell g h q i = .inr (ci, pobj g h i (q i) (fc ci)) := by
  unfold pcell
  rw [hk, if_pos hc]
theorem pcell_i (hk : kd i = 10) : pcell g h q i = .inl (gA g 0, kn i, .inl (gi h i)) := by unfold pcell; rw [hk]; rfl
theorem pcell_c (hk : kd i = 11) : pcell g h q i = .inl (gA g 1, kn i, .inl (gi h i)) := by unfold pcell; rw [hk]; rfl
theorem pcell_l (hk : kd i = 12) : pcell g h q i = .inl (gA g 2, kn i, .inr (.inl (gl h i))) := by unfold pcell; rw [hk]; rfl
theorem pcell_r {t : Nat} (hk : kd i = t + 10) (ht : 3 ≤ t) : pcell g h q i = .inl (gA g t, kn i, .inr (.inr (.inr (.inr (fun j => if j < q i then some (gB g + rfA i j) else none))))) := by
  unfold pcell
  rw [hk, if_neg (by omega), if_neg (by omega), if_neg (by omega), if_neg (by omega), Nat.add_sub_cancel]
theorem pobj_get {k c x : Nat} {cs : List Nat} (hc : cs[k]? = some c) : (pobj g h i x cs)[k]? = some (pfv g h i x k c) := by
  simp [pobj, List.getElem?_mapIdx, hc]
end Mk
def RepC (g : GE) (n : Nat) (q : PG) (h : HP) (H : Heap) : Prop := va_P (gC g, gS g) vwCl (wp g h q n) H ∧ gB g ≤ H.size ∧ ∀ z, z < gB g → H[z]? = (gH g)[z]?
def szc (i : Nat) : Nat := if kd i < 10 then (fc (kd i)).length else kn i
def sS (n : Nat) : Nat := sm szc n
theorem sS_1 (n : Nat) : sS (n + 1) = sS n + szc n := rfl
theorem sS_le {m n : Nat} (h : m ≤ n) : sS m ≤ sS n := sm_mono h
def FZc (g : GE) (U : State) : Prop := FZ g U ∧ va_AO RX3 U ∧ va_AO RX0 U ∧ va_AO RX2 U
theorem FZc.warm {g : GE} {s U : State} (hW : s.WarmedH U.vm) (h : FZc g s) : FZc g U := ⟨h.1.warm hW, h.2.1.moved hW.alike, h.2.2.1.moved hW.alike, h.2.2.2.moved hW.alike⟩
theorem FZc.same {g : GE} {s U : State} (hv : U.vm = s.vm) (h : FZc g s) : FZc g U := by
  have hvm : s.vm.Alike U.vm := by rw [hv]; exact Vm.Alike.refl s.vm
  exact ⟨h.1.same hv, h.2.1.moved hvm, h.2.2.1.moved hvm, h.2.2.2.moved hvm⟩
def CXc (g : GE) (d : MD) (N0 : Nat) (p : Program) (R : Room) (s : State) (m : MethodId) (args : Array Value) (meth : Method) (c : Code) : Prop :=
  p.tables.exec = Jvm.exec ∧ c.code = dB d ∧ c.maxLocals = dN d ∧ s.vm.findClass (dO d) = some m.cls ∧ (∀ w ∈ lwg, w.before args s = true) ∧ FZc g s ∧ dF d ≤ R.frames ∧ dW d ≤ R.locals ∧ s.heap.size = gB g + N0 ∧ (dR d = none → meth.name = "<init>")
/-- THE MACHINE THAT MAKES CELLS: from n cells on, the method comes to an end at N1 cells, N0 it began with -/
def Wc (g : GE) (d : MD) (N0 N1 n pc : Nat) (ls : List (Option Value)) (st : List Value) (q : PG) (h : HP) (Q : Nat → List (Option Value) → PG → HP → Prop) : Prop :=
  N0 ≤ n → ∀ (p : Program) (e : Env) (R : Room) (s : State) (m : MethodId) (args : Array Value) (below : List Frame) (meth : Method) (c : Code) (Qf : State → Prop),
    CXc g d N0 p R s m args meth c → N1 - N0 ≤ R.cells → sS N1 - sS N0 ≤ R.slots →
    (∀ (pc' : Nat) (ls' : List (Option Value)) (lsr' : Array Slot) (H' : Heap) (locs' : List Loc) (q' : PG) (h' : HP), Q pc' ls' q' h' → RepC g N1 q' h' H' → LO g locs' → LV g lsr' (dN d) ls' → W p (gL g) e R s m args below meth c H' locs' (N1 - N0) (sS N1 - sS N0) Qf (F0 m pc' lsr' [])) →
    ∀ (H : Heap) (locs : List Loc) (lsr : Array Slot), RepC g n q h H → LO g locs → LV g lsr (dN d) ls → W p (gL g) e R s m args below meth c H locs (n - N0) (sS n - sS N0) Qf (F0 m pc lsr (st.map (cv g)))
theorem w_sz {p : Program} {l : Launch} {e : Env} {R : Room} {s : State} {m : MethodId} {args : Array Value} {below : List Frame} {meth : Method} {c : Code} {H : Heap} {locs : List Loc} {cells slots : Nat} {Q : State → Prop} {f : JFrame} (k : s.heap.size ≤ H.size → H.size ≤ s.heap.size + cells → W p l e R s m args below meth c H locs cells slots Q f) : W p l e R s m args below meth c H locs cells slots Q f := by
  intro T hT X
  have h1 : s.heap.size ≤ T.heap.size := X.same.2.1
  have h2 : T.heap.size ≤ s.heap.size + cells := X.same.2.2.1
  rw [hT] at h1 h2
  exact k h1 h2 T hT X
section Wcs
variable {g : GE} {d : MD} {N0 N1 n pc : Nat} {ls : List (Option Value)} {st : List Value} {q : PG} {h : HP} {Q : Nat → List (Option Value) → PG → HP → Prop}
theorem wc_of {pc' : Nat} {ls' : List (Option Value)} {st' : List Value} {q' : PG} {h' : HP}
    (step : ∀ (p : Program) (e : Env) (R : Room) (s : State) (m : MethodId) (args : Array Value) (below : List Frame) (meth : Method) (c : Code) (cells slots : Nat) (Qf : State → Prop),
      CXc g d N0 p R s m args meth c → cells ≤ R.cells → slots ≤ R.slots → ∀ (H : Heap) (locs : List Loc) (lsr : Array Slot), RepC g n q h H → LO g locs → LV g lsr (dN d) ls →
      (∀ (H' : Heap) (locs' : List Loc) (lsr' : Array Slot), RepC g n q' h' H' → LO g locs' → LV g lsr' (dN d) ls' → W p (gL g) e R s m args below meth c H' locs' cells slots Qf (F0 m pc' lsr' (st'.map (cv g)))) →
      W p (gL g) e R s m args below meth c H locs cells slots Qf (F0 m pc lsr (st.map (cv g))))
    (hN : n ≤ N1) (k : Wc g d N0 N1 n pc' ls' st' q' h' Q) : Wc g d N0 N1 n pc ls st q h Q := by
  intro hn p e R s m args below meth c Qf X r1 r2 RET H locs lsr hR hL hV
  have s1 := sS_le hN
  exact step p e R s m args below meth c _ _ Qf X (by omega) (by omega) H locs lsr hR hL hV (fun H' locs' lsr' a1 a2 a3 => k hn p e R s m args below meth c Qf X r1 r2 RET H' locs' lsr' a1 a2 a3)
theorem wc_end (hq : Q pc ls q h) : Wc g d N0 N1 N1 pc ls [] q h Q := by
  intro hn p e R s m args below meth c Qf X r1 r2 RET H locs lsr hR hL hV
  exact RET pc ls lsr H locs q h hq hR hL hV
variable (hN : n ≤ N1)
theorem wc_iconst {j : Int} (v : Int32) (pc' : Nat) (hd : decode (dB d) pc = .ok (.iconst j, 1)) (hp : pc + 1 = pc') (hv : Int32.ofInt j = v) (hN : n ≤ N1) (k : Wc g d N0 N1 n pc' ls (.int v :: st) q h Q) : Wc g d N0 N1 n pc ls st q h Q := by
  subst hp
  exact wc_of (fun p e R s m args below meth c cells slots Qf X _ _ H locs lsr hR hL hV K => lv_iconst X.1 X.2.1 hd hv (K H locs lsr hR hL hV)) hN k
theorem wc_bipush {j : Int} (v : Int32) (pc' : Nat) (hd : decode (dB d) pc = .ok (.bipush j, 2)) (hp : pc + 2 = pc') (hv : (Int8.ofInt j).toInt32 = v) (hN : n ≤ N1) (k : Wc g d N0 N1 n pc' ls (.int v :: st) q h Q) : Wc g d N0 N1 n pc ls st q h Q := by
  subst hp
  exact wc_of (fun p e R s m args below meth c cells slots Qf X _ _ H locs lsr hR hL hV K => lv_bipush X.1 X.2.1 hd hv (K H locs lsr hR hL hV)) hN k
theorem wc_sipush {j : Int} (v : Int32) (pc' : Nat) (hd : decode (dB d) pc = .ok (.sipush j, 3)) (hp : pc + 3 = pc') (hv : (Int16.ofInt j).toInt32 = v) (hN : n ≤ N1) (k : Wc g d N0 N1 n pc' ls (.int v :: st) q h Q) : Wc g d N0 N1 n pc ls st q h Q := by
  subst hp
  exact wc_of (fun p e R s m args below meth c cells slots Qf X _ _ H locs lsr hR hL hV K => lv_sipush X.1 X.2.1 hd hv (K H locs lsr hR hL hV)) hN k
theorem wc_dup {v : Value} (pc' : Nat) (hd : decode (dB d) pc = .ok (.dup, 1)) (hp : pc + 1 = pc') (hv : v.category = 1) (hN : n ≤ N1) (k : Wc g d N0 N1 n pc' ls (v :: v :: st) q h Q) : Wc g d N0 N1 n pc ls (v :: st) q h Q := by
  subst hp
  exact wc_of (fun p e R s m args below meth c cells slots Qf X _ _ H locs lsr hR hL hV K => lv_dup X.1 X.2.1 hd (by rw [cv_cat]; exact hv) (K H locs lsr hR hL hV)) hN k
theorem wc_iload_n (i : Fin 4) {x : Int32} (pc' : Nat) (hd : decode (dB d) pc = .ok (.iload_n i, 1)) (hp : pc + 1 = pc') (hl : ls[(i : Nat)]? = some (some (.int x))) (hN : n ≤ N1) (k : Wc g d N0 N1 n pc' ls (.int x :: st) q h Q) : Wc g d N0 N1 n pc ls st q h Q := by
  subst hp
  exact wc_of (fun p e R s m args below meth c cells slots Qf X _ _ H locs lsr hR hL hV K => lv_iload_n X.1 X.2.1 hd rfl (hV.2.2 i _ hl) (K H locs lsr hR hL hV)) hN k
theorem wc_aload_n (i : Fin 4) {x : Nat} (pc' : Nat) (hd : decode (dB d) pc = .ok (.aload_n i, 1)) (hp : pc + 1 = pc') (hl : ls[(i : Nat)]? = some (some (.ref x))) (hN : n ≤ N1) (k : Wc g d N0 N1 n pc' ls (.ref x :: st) q h Q) : Wc g d N0 N1 n pc ls st q h Q := by
  subst hp
  exact wc_of (fun p e R s m args below meth c cells slots Qf X _ _ H locs lsr hR hL hV K => lv_aload_n X.1 X.2.1 hd rfl (hV.2.2 i _ hl) (K H locs lsr hR hL hV)) hN k
theorem wc_istore_n (i : Fin 4) {x : Int32} (pc' : Nat) (ls' : List (Option Value)) (hd : decode (dB d) pc = .ok (.istore_n i, 1)) (hp : pc + 1 = pc') (hi : (i : Nat) < dN d) (hn : ∀ (j : Nat) (w : Value), j + 1 = (i : Nat) → ls[j]? = some (some w) → w.category = 1) (hs : ls.set (i : Nat) (some (.int x)) = ls') (hN : n ≤ N1) (k : Wc g d N0 N1 n pc' ls' st q h Q) : Wc g d N0 N1 n pc ls (.int x :: st) q h Q := by
  subst hp
  subst hs
  exact wc_of (fun p e R s m args below meth c cells slots Qf X _ _ H locs lsr hR hL hV K => lv_istore_n X.1 X.2.1 hd rfl hV.has hi rfl (fun ls9 h9 => K H locs ls9 hR hL (LV.put1 (v := .int x) h9 hn))) hN k
theorem wc_astore_n (i : Fin 4) {x : Nat} (pc' : Nat) (ls' : List (Option Value)) (hd : decode (dB d) pc = .ok (.astore_n i, 1)) (hp : pc + 1 = pc') (hi : (i : Nat) < dN d) (hn : ∀ (j : Nat) (w : Value), j + 1 = (i : Nat) → ls[j]? = some (some w) → w.category = 1) (hs : ls.set (i : Nat) (some (.ref x)) = ls') (hN : n ≤ N1) (k : Wc g d N0 N1 n pc' ls' st q h Q) : Wc g d N0 N1 n pc ls (.ref x :: st) q h Q := by
  subst hp
  subst hs
  exact wc_of (fun p e R s m args below meth c cells slots Qf X _ _ H locs lsr hR hL hV K => lv_astore_n X.1 X.2.1 hd rfl hV.has hi rfl (fun ls9 h9 => K H locs ls9 hR hL (LV.put1 (v := .ref x) h9 hn))) hN k
theorem wc_iinc (i : Nat) {j : Int} {x : Int32} (v : Int32) (pc' : Nat) (ls' : List (Option Value)) (hd : decode (dB d) pc = .ok (.iinc i j, 3)) (hp : pc + 3 = pc') (hi : i < dN d) (hl : ls[i]? = some (some (.int x))) (hv : x + Int32.ofInt j = v) (hn : ∀ (j : Nat) (w : Value), j + 1 = i → ls[j]? = some (some w) → w.category = 1) (hs : ls.set i (some (.int v)) = ls') (hN : n ≤ N1) (k : Wc g d N0 N1 n pc' ls' st q h Q) : Wc g d N0 N1 n pc ls st q h Q := by
  subst hp
  subst hs
  refine wc_of (fun p e R s m args below meth c cells slots Qf X _ _ H locs lsr hR hL hV K => ?_) hN k
  obtain ⟨z, hz⟩ := List.getElem?_of_mem (lm_mem (g := g).mpr ⟨_, hl, rfl⟩)
  exact lv_iinc X.1 X.2.1 hd hV.has hz hv hi rfl (fun ls9 h9 => K H locs ls9 hR hL (LV.put1 (v := .int v) h9 hn))
theorem wc_goto {off : Int} (tgt : Nat) (hd : decode (dB d) pc = .ok (.goto off, 3)) (ht : (pc : Int) + off = (tgt : Int)) (hN : n ≤ N1) (k : Wc g d N0 N1 n tgt ls st q h Q) : Wc g d N0 N1 n pc ls st q h Q :=
  wc_of (fun p e R s m args below meth c cells slots Qf X _ _ H locs lsr hR hL hV K => lv_goto X.1 X.2.1 hd ht (K H locs lsr hR hL hV)) hN k
theorem wc_icmp_ge {x y : Int32} {off : Int} (pc' tgt : Nat) (hd : decode (dB d) pc = .ok (.if_icmp .ge off, 3)) (ht : (pc : Int) + off = (tgt : Int)) (hp : pc + 3 = pc') (kt : y ≤ x → Wc g d N0 N1 n tgt ls st q h Q) (kf : ¬ y ≤ x → Wc g d N0 N1 n pc' ls st q h Q) : Wc g d N0 N1 n pc ls (.int y :: .int x :: st) q h Q := by
  subst hp
  intro hn p e R s m args below meth c Qf X r1 r2 RET H locs lsr hR hL hV
  exact lv_icmp_ge X.1 X.2.1 hd ht (fun hx => kt hx hn p e R s m args below meth c Qf X r1 r2 RET H locs lsr hR hL hV) (fun hx => kf hx hn p e R s m args below meth c Qf X r1 r2 RET H locs lsr hR hL hV)
theorem lib_obj : Cond.instanceMethod Lib.objectInit ∈ lwg := lwg_1 23 (by decide +kernel) rfl
theorem lib_objC : Cond.code Lib.objectInit ⟨#[0xb1]⟩ 1 none ∈ lwg := lwg_1 24 rfl rfl
theorem wc_obj {i a : Nat} (pc' : Nat) (hl : Cond.methodLink (dO d) i Lib.objectInit ∈ lwg) (hroom : 1 ≤ dF d ∧ 20 ≤ dW d) (hrest : (st.map fun v => v.category).sum ≤ 8) (hd : decode (dB d) pc = .ok (.invokespecial i, 3)) (hp : pc + 3 = pc') (hN : n ≤ N1) (k : Wc g d N0 N1 n pc' ls st q h Q) : Wc g d N0 N1 n pc ls (.ref a :: st) q h Q := by
  subst hp
  refine wc_of (fun p e R s m args below meth c cells slots Qf X _ _ H locs lsr hR hL hV K => ?_) hN k
  obtain ⟨hx, hb2, hml, hown, hts, hz, hF, hW2, -⟩ := id X
  have hr := rest_ok (g := g) hrest
  refine W.objInit (a := adr g a) (rest := st.map (cv g)) hx hb2 hown (hts _ hl) (hts _ lib_obj) (hts _ lib_objC) rfl (hV.1.trans hml.symm) rfl hd (by omega) ?_ ?_
  · show 2 * 0 + _ + 12 ≤ _
    omega
  · exact K H locs lsr hR hL hV
/-- a reference that stands is read -/
theorem wc_getr {i x : Nat} (ci k nn : Nat) (y : Nat) (pc' : Nat) (hf : FL (dO d) i ci k) (hd : decode (dB d) pc = .ok (.getfield i, 3)) (hp : pc + 3 = pc') (hx : kd x = ci) (hxn : x < n) (hc : (fc ci)[k]? = some (nn + 3)) (hk : k < q x) (hy : x + nn = y) (hyn : y < 5000) (hn5 : n < 5000) (hN : n ≤ N1) (kk : Wc g d N0 N1 n pc' ls (.ref y :: st) q h Q) : Wc g d N0 N1 n pc ls (.ref x :: st) q h Q := by
  subst hp
  subst hy
  refine wc_of (fun p e R s m args below meth c cells slots Qf X _ _ H locs lsr hR hL hV K => ?_) hN kk
  obtain ⟨cq, hq, hkk, hl⟩ := hf
  have hci : ci < 9 := vwCl_lt hq
  have e1 : (Value.ref x :: st).map (cv g) = .ref (gB g + x) :: st.map (cv g) := ref_map st (by omega)
  have e2 : (Value.ref (x + nn) :: st).map (cv g) = .ref (gB g + (x + nn)) :: st.map (cv g) := ref_map st (by omega)
  rw [e1]
  refine va_get (D := (gC g, gS g)) (C := cq.1) (T := cq.2.1) (N := cq.2.2) (v := .ref (gB g + (x + nn))) X.1 X.2.1 X.2.2.2.2.1 (cls_ok ci cq hq).1 X.2.2.2.1 X.2.2.2.2.2.1.1.1 hR.1 x ((wp_get hxn).trans (by rw [pcell_obj hx (by omega)])) hq k hkk (X.2.2.2.2.1 _ hl) (fun _ h9 => h9) ((pobj_get hc).trans ?_) hd ?_
  · show some (if k < q x then _ else _) = _
    rw [if_pos hk]
  · have K1 := K H locs lsr hR hL hV
    rw [e2] at K1
    exact K1
theorem RepC.after {q' : PG} {h' : HP} {H H1 : Heap} {locs1 : List Loc} {n' : Nat} (hR : RepC g n q h H) (hP : va_P (gC g, gS g) vwCl (wp g h' q' n') H1) (hS : va_S (frA g) H H1 locs1) : RepC g n' q' h' H1 ∧ LO g locs1 := by
  refine ⟨⟨hP, Nat.le_trans hR.2.1 hS.1, fun z hz => ?_⟩, hS.2.2⟩
  rw [hS.2.1 z (Nat.lt_of_lt_of_le hz hR.2.1) (Nat.not_le.mpr hz)]
  exact hR.2.2 z hz
def okGap (ci a k : Nat) : Bool := (List.range k).all (fun j => decide (j < a) || decide ((fc ci).getD j 0 < 3))
theorem pobj_set {x a k nn : Nat} {cs : List Nat} (ha : a ≤ k) (hc : cs[k]? = some (nn + 3)) (hg : (List.range k).all (fun j => decide (j < a) || decide (cs.getD j 0 < 3)) = true) : pobj g h x (k + 1) cs = (pobj g h x a cs).set k (.ref (gB g + (x + nn))) := by
  have hlen : k < (pobj g h x a cs).length := by
    have := (List.getElem?_eq_some_iff.mp hc).1
    simpa [pobj] using this
  apply List.ext_getElem?
  intro j
  by_cases hj : j = k
  · subst hj
    rw [List.getElem?_set_self hlen, pobj_get hc]
    show some (if j < j + 1 then _ else _) = _
    rw [if_pos (by omega)]
  · rw [List.getElem?_set_ne (fun z => hj z.symm)]
    simp only [pobj, List.getElem?_mapIdx]
    cases hcj : cs[j]? with
    | none => rfl
    | some cj =>
      simp only [Option.map_some]
      congr 1
      match cj, hcj with
      | 0, _ => rfl
      | 1, _ => rfl
      | 2, _ => rfl
      | m + 3, hcj =>
        show (if j < k + 1 then _ else _) = (if j < a then _ else _)
        by_cases z : j < a
        · rw [if_pos (by omega), if_pos z]
        · rw [if_neg z]
          by_cases z2 : j < k
          · have := List.all_eq_true.mp hg j (List.mem_range.mpr z2)
            rw [List.getD_eq_getElem?_getD, hcj] at this
            simp at this
            omega
          · rw [if_neg (by omega)]
/-- a reference comes into its field -/
theorem wc_putr {i x y : Nat} (ci k nn a : Nat) (pc' : Nat) (hf : FL (dO d) i ci k) (hd : decode (dB d) pc = .ok (.putfield i, 3)) (hp : pc + 3 = pc') (hx : kd x = ci) (hxn : x < n) (hc : (fc ci)[k]? = some (nn + 3)) (hy : x + nn = y) (ha : q x = a) (hak : a ≤ k) (hg : okGap ci a k = true) (hfin : (vwCl.map (fun q => (q.2.1 k).2.2.2))[ci]? = some true) (hdc : (vwCl.map (fun q => (q.2.1 k).1))[ci]? = some (dO d)) (hret : dR d = none) (hnr : ∀ z, narrow (tyC ci k) (.ref z) = .ref z ∧ fits (tyC ci k) (.ref z) = true) (hn5 : n < 5000) (hyn : y < n) (hN : n ≤ N1)
    (kk : Wc g d N0 N1 n pc' ls st (upP q x (k + 1)) h Q) : Wc g d N0 N1 n pc ls (.ref y :: .ref x :: st) q h Q := by
  subst hp
  subst hy
  refine wc_of (fun p e R s m args below meth c cells slots Qf X _ _ H locs lsr hR hL hV K => ?_) hN kk
  obtain ⟨cq, hq, hkk, hl⟩ := hf
  have hci : ci < 9 := vwCl_lt hq
  have hfin2 : (cq.2.1 k).2.2.2 = true := by
    rw [List.getElem?_map, hq] at hfin
    exact Option.some.inj hfin
  have hdc2 : (cq.2.1 k).1 = dO d := by
    rw [List.getElem?_map, hq] at hdc
    exact Option.some.inj hdc
  have e1 : (Value.ref (x + nn) :: Value.ref x :: st).map (cv g) = .ref (gB g + (x + nn)) :: .ref (gB g + x) :: st.map (cv g) := by
    rw [ref_map _ (by omega), ref_map _ (by omega)]
  rw [e1]
  have hlen : k < (pobj g h x (q x) (fc ci)).length := by
    have := (List.getElem?_eq_some_iff.mp hc).1
    simpa [pobj] using this
  refine va_putF (D := (gC g, gS g)) (C := cq.1) (T := cq.2.1) (N := cq.2.2) (v := .ref (gB g + (x + nn))) (ty := tyC ci k) X.1 X.2.1 X.2.2.2.2.1 (cls_ok ci cq hq).1 (tyC ci) (cls_ok ci cq hq).2.1 (cls_ok ci cq hq).2.2 X.2.2.2.1 X.2.2.2.2.2.1.1.1 hR.1 wp_D (Rep.S (h := h) hL) x ((wp_get hxn).trans (by rw [pcell_obj hx (by omega)])) hq k hkk (X.2.2.2.2.1 _ hl) (fun _ h9 => h9) hfin2 (X.2.2.2.2.2.2.2.2.2 hret) hdc2 ((cls_ok ci cq hq).2.1 k hkk) (hnr _).1 (hnr _).2 hlen hd (fun H1 locs1 hP1 _ hS1 => ?_)
  rw [wp_set (h' := h) (q' := upP q x (k + 1))] at hP1
  · obtain ⟨r1, r2⟩ := hR.after hP1 hS1
    exact K H1 locs1 lsr r1 r2 hV
  · rw [pcell_obj hx (by omega), upP_s, ha, pobj_set hak hc hg]
  · intro j _ hj
    exact pcell_q (upP_n hj)
/-- a new cell's number -/
theorem new_at {H1 : Heap} {z : Nat} {e : va_E} (hP : va_P (gC g, gS g) vwCl (wp g h q n ++ [(z, e)]) H1) (hD : va_D (frA g) (wp g h q n ++ [(z, e)])) (hs : H1.size ≤ gB g + (n + 1)) : z = gB g + n := by
  have h0 : (wp g h q n ++ [(z, e)])[n]? = some (z, e) := by
    rw [List.getElem?_append_right (by rw [wp_len]; exact Nat.le_refl _), wp_len, Nat.sub_self]
    rfl
  have h1 : z < H1.size := (hP n _ h0).lt
  have h2 : gB g ≤ z := hD.2 n _ h0
  apply Decidable.byContradiction
  intro hz
  have h3 : z - gB g < n := by omega
  have h4 : (wp g h q n ++ [(z, e)])[z - gB g]? = some (gB g + (z - gB g), pcell g h q (z - gB g)) := by
    rw [List.getElem?_append_left (by rw [wp_len]; exact h3), wp_get h3]
  have := hD.1 _ _ _ _ h4 h0 (by show gB g + (z - gB g) = z; omega)
  omega
end Wcs
