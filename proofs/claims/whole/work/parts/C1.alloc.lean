/-! making cells -/
theorem dv_ok : ∀ ci, ci < 9 → ∀ j, j < (fc ci).length → defaultValue (tyC ci j) = (if (fc ci).getD j 0 = 0 then Value.int 0 else .null) := by decide +kernel
theorem cl_len : ∀ ci, ci < 9 → (vwCl.map (fun q => q.2.2))[ci]? = some (fc ci).length := by decide +kernel
section Wcs
variable {g : GE} {d : MD} {N0 N1 n pc : Nat} {ls : List (Option Value)} {st : List Value} {q : PG} {h : HP} {Q : Nat → List (Option Value) → PG → HP → Prop}
theorem pobj_0 {cs : List Nat} (hz : ∀ k, gi h n k = 0) {j : Nat} (hj : j < cs.length) : vp_V (pobj g h n 0 cs) j = (if cs.getD j 0 = 0 then Value.int 0 else .null) := by
  have hc : cs[j]? = some cs[j] := List.getElem?_eq_getElem hj
  unfold vp_V
  rw [List.getD_eq_getElem?_getD, pobj_get hc, List.getD_eq_getElem?_getD, hc]
  show pfv g h n 0 j cs[j] = if cs[j] = 0 then _ else _
  generalize cs[j] = c
  match c with
  | 0 => show Value.int (gi h n j) = _; rw [hz]; rfl
  | 1 => rfl
  | 2 => rfl
  | m + 3 => rfl
/-- a step that makes one cell -/
theorem wc_alloc {pc' : Nat} {st' : List Value} {q' : PG}
    (step : ∀ (p : Program) (e : Env) (R : Room) (s : State) (m : MethodId) (args : Array Value) (below : List Frame) (meth : Method) (c : Code) (cells slots : Nat) (Qf : State → Prop),
      CXc g d N0 p R s m args meth c → cells + 1 ≤ R.cells → slots + szc n ≤ R.slots → ∀ (H : Heap) (locs : List Loc) (lsr : Array Slot), RepC g n q h H → LO g locs → LV g lsr (dN d) ls →
      (∀ (H' : Heap) (locs' : List Loc), (H'.size ≤ s.heap.size + (cells + 1) → RepC g (n + 1) q' h H') → LO g locs' → W p (gL g) e R s m args below meth c H' locs' (cells + 1) (slots + szc n) Qf (F0 m pc' lsr (st'.map (cv g)))) →
      s.heap.size + cells = gB g + n → W p (gL g) e R s m args below meth c H locs cells slots Qf (F0 m pc lsr (st.map (cv g))))
    (hN : n + 1 ≤ N1) (k : Wc g d N0 N1 (n + 1) pc' ls st' q' h Q) : Wc g d N0 N1 n pc ls st q h Q := by
  intro hn p e R s m args below meth c Qf X r1 r2 RET H locs lsr hR hL hV
  have s1 := sS_le hN
  have s2 := sS_le hn
  have s3 := sS_1 n
  have hsz := X.2.2.2.2.2.2.2.2.1
  refine step p e R s m args below meth c _ _ Qf X (by omega) (by omega) H locs lsr hR hL hV (fun H' locs' a1 a2 => ?_) (by omega)
  have K := k (by omega) p e R s m args below meth c Qf X r1 r2 RET H' locs' lsr
  rw [show n + 1 - N0 = n - N0 + 1 by omega, show sS (n + 1) - sS N0 = sS n - sS N0 + szc n by omega] at K
  exact w_sz (fun _ z => K (a1 z) a2 hV)
theorem wc_new {i : Nat} (ci : Nat) (cq : vw_C) (pc' : Nat) (hq : vwCl[ci]? = some cq) (hl : Cond.classLink (dO d) i cq.1 ∈ lwg) (hi : Cond.instantiable cq.1 cq.2.2 ∈ lwg) (hini : Cond.initialized cq.1 ∈ lwg) (hd : decode (dB d) pc = .ok (.new i, 3)) (hp : pc + 3 = pc') (hk : kd n = ci) (hz : ∀ k, gi h n k = 0) (hn5 : n < 5000) (hN : n + 1 ≤ N1)
    (kk : Wc g d N0 N1 (n + 1) pc' ls (.ref n :: st) (upP q n 0) h Q) : Wc g d N0 N1 n pc ls st q h Q := by
  subst hp
  refine wc_alloc (fun p e R s m args below meth c cells slots Qf X r1 r2 H locs lsr hR hL hV K hsz => ?_) hN kk
  have hci : ci < 9 := vwCl_lt hq
  have hlen : cq.2.2 = (fc ci).length := by
    have := cl_len ci hci
    rw [List.getElem?_map, hq] at this
    exact Option.some.inj this
  have hs : szc n = cq.2.2 := by unfold szc; rw [hk, if_pos (by omega), hlen]
  rw [hs] at K r2
  refine va_new (D := (gC g, gS g)) (C := cq.1) (T := cq.2.1) (N := cq.2.2) (fs := pobj g h n 0 (fc ci)) X.1 X.2.1 X.2.2.2.2.1 (cls_ok ci cq hq).1 (tyC ci) (cls_ok ci cq hq).2.1 X.2.2.2.1 (X.2.2.2.2.1 _ hl) (X.2.2.2.2.1 _ hi) (X.2.2.2.2.1 _ hini) X.2.2.2.2.2.1.1.1 hR.1 wp_D (Rep.S (h := h) hL) (fun z hz => Nat.le_trans hR.2.1 hz) hq (fun j hj => ?_) r1 r2 hd (fun z H1 hP1 hD1 hS1 => ?_)
  · rw [dv_ok ci hci j (by omega), pobj_0 hz (by omega)]
  · refine w_sz (fun _ hsz1 => ?_)
    have ez := new_at hP1 hD1 (by omega)
    subst ez
    have K1 := K H1 locs
    rw [ref_map st (by omega)] at K1
    refine K1 (fun _ => ?_) hL
    rw [wp_push (h' := h) (q' := upP q n 0)] at hP1
    · exact (hR.after hP1 hS1).1
    · rw [pcell_obj hk (by omega), upP_s]
    · intro j hj
      exact pcell_q (upP_n (by omega))
theorem ac_int : Cond.arrayClass .int ∈ lwg := lwg_1 118 (by decide +kernel) rfl
theorem ac_long : Cond.arrayClass .long ∈ lwg := lwg_2 56 (by decide +kernel) rfl
theorem ac_char : Cond.arrayClass .char ∈ lwg := lwg_5 160 (by decide +kernel) rfl
theorem wc_newa {atype : ArrayType} {x : Int32} (pc' : Nat) (hk : (kd n = 10 ∧ atype = .int) ∨ (kd n = 11 ∧ atype = .char) ∨ (kd n = 12 ∧ atype = .long)) (hd : decode (dB d) pc = .ok (.newarray atype, 2)) (hp : pc + 2 = pc') (hx : ix x = kn n) (hx0 : ¬ x < 0) (hz : ∀ k, gi h n k = 0) (hzl : ∀ k, gl h n k = 0) (hn5 : n < 146) (hN : n + 1 ≤ N1)
    (kk : Wc g d N0 N1 (n + 1) pc' ls (.ref n :: st) q h Q) : Wc g d N0 N1 n pc ls (.int x :: st) q h Q := by
  subst hp
  refine wc_alloc (fun p e R s m args below meth c cells slots Qf X r1 r2 H locs lsr hR hL hV K hsz => ?_) hN kk
  have hkn := kn_le n hn5
  have hs : szc n = kn n := by
    unfold szc
    rcases hk with ⟨z, -⟩ | ⟨z, -⟩ | ⟨z, -⟩ <;> rw [z] <;> rfl
  rw [hs] at K r2
  have fin : ∀ (z : Nat) (H1 : Heap) (e1 : va_E), pcell g h q n = e1 → va_P (gC g, gS g) vwCl (wp g h q n ++ [(z, e1)]) H1 → va_D (frA g) (wp g h q n ++ [(z, e1)]) → va_S (frA g) H H1 locs → W p (gL g) e R s m args below meth c H1 locs (cells + 1) (slots + kn n) Qf (F0 m (pc + 2) lsr (.ref z :: st.map (cv g))) := by
    intro z H1 e1 he hP1 hD1 hS1
    refine w_sz (fun _ hsz1 => ?_)
    have ez := new_at hP1 hD1 (by omega)
    subst ez
    have K1 := K H1 locs
    rw [ref_map st (by omega)] at K1
    refine K1 (fun _ => ?_) hL
    rw [wp_push (h' := h) (q' := q) he (fun _ _ => rfl)] at hP1
    exact (hR.after hP1 hS1).1
  have hK := X.2.2.2.2.2.1.1.1
  have hA : ∀ z, H.size ≤ z → frA g z := fun z hz => Nat.le_trans hR.2.1 hz
  rcases hk with ⟨hk, rfl⟩ | ⟨hk, rfl⟩ | ⟨hk, rfl⟩
  · refine va_newa (atype := .int) (ty := .int) (a0 := (kn n, .inl (gi h n))) X.1 X.2.1 (X.2.2.2.2.1 _ ac_int) rfl hK hR.1 wp_D (Rep.S (h := h) hL) hA (fun cA => ?_) hx0 hx ?_ r1 r2 hd (fun z cA H1 hK1 hP1 hD1 hS1 => ?_)
    · have : gi h n = fun _ => 0 := funext hz
      rw [this]; rfl
    · show kn n * 4 ≤ 536870912
      omega
    · have eA : cA = gA g 0 := Option.some.inj ((hK1.2 6 (cA, .int) rfl).2.symm.trans (hK.2 0 (gA g 0, .int) rfl).2)
      subst eA
      exact fin z H1 _ (pcell_i hk) hP1 hD1 hS1
  · refine va_newa (atype := .char) (ty := .char) (a0 := (kn n, .inl (gi h n))) X.1 X.2.1 (X.2.2.2.2.1 _ ac_char) rfl hK hR.1 wp_D (Rep.S (h := h) hL) hA (fun cA => ?_) hx0 hx ?_ r1 r2 hd (fun z cA H1 hK1 hP1 hD1 hS1 => ?_)
    · have : gi h n = fun _ => 0 := funext hz
      rw [this]; rfl
    · show kn n * 2 ≤ 536870912
      omega
    · have eA : cA = gA g 1 := Option.some.inj ((hK1.2 6 (cA, .char) rfl).2.symm.trans (hK.2 1 (gA g 1, .char) rfl).2)
      subst eA
      exact fin z H1 _ (pcell_c hk) hP1 hD1 hS1
  · refine va_newa (atype := .long) (ty := .long) (a0 := (kn n, .inr (.inl (gl h n)))) X.1 X.2.1 (X.2.2.2.2.1 _ ac_long) rfl hK hR.1 wp_D (Rep.S (h := h) hL) hA (fun cA => ?_) hx0 hx ?_ r1 r2 hd (fun z cA H1 hK1 hP1 hD1 hS1 => ?_)
    · have : gl h n = fun _ => 0 := funext hzl
      rw [this]; rfl
    · show kn n * 8 ≤ 536870912
      omega
    · have eA : cA = gA g 2 := Option.some.inj ((hK1.2 6 (cA, .long) rfl).2.symm.trans (hK.2 2 (gA g 2, .long) rfl).2)
      subst eA
      exact fin z H1 _ (pcell_l hk) hP1 hD1 hS1
theorem wc_newr {i : Nat} {x : Int32} (t : Nat) (C : String) (pc' : Nat) (hk : kd n = t + 10) (ht : (t = 3 ∧ C = RX3) ∨ (t = 4 ∧ C = RX0) ∨ (t = 5 ∧ C = RX2)) (hl : Cond.classLink (dO d) i C ∈ lwg) (hd : decode (dB d) pc = .ok (.anewarray i, 3)) (hp : pc + 3 = pc') (hx : ix x = kn n) (hx0 : ¬ x < 0) (hn5 : n < 146) (hN : n + 1 ≤ N1)
    (kk : Wc g d N0 N1 (n + 1) pc' ls (.ref n :: st) (upP q n 0) h Q) : Wc g d N0 N1 n pc ls (.int x :: st) q h Q := by
  subst hp
  refine wc_alloc (fun p e R s m args below meth c cells slots Qf X r1 r2 H locs lsr hR hL hV K hsz => ?_) hN kk
  have hkn := kn_le n hn5
  have hs : szc n = kn n := by unfold szc; rw [hk, if_neg (by omega)]
  rw [hs] at K r2
  have hK := X.2.2.2.2.2.1.1.1
  have hA : ∀ z, H.size ≤ z → frA g z := fun z hz => Nat.le_trans hR.2.1 hz
  have hAO : va_AO C s := by
    rcases ht with ⟨-, rfl⟩ | ⟨-, rfl⟩ | ⟨-, rfl⟩
    · exact X.2.2.2.2.2.1.2.1
    · exact X.2.2.2.2.2.1.2.2.1
    · exact X.2.2.2.2.2.1.2.2.2
  refine va_newq (C := C) X.1 X.2.1 X.2.2.2.1 (X.2.2.2.2.1 _ hl) hAO hK hR.1 wp_D (Rep.S (h := h) hL) hA hx0 hx (by omega) r1 r2 hd (fun z cA H1 hK1 hP1 hD1 hS1 => ?_)
  have eA : cA = gA g t := by
    have h1 := (hK1.2 6 (cA, .object C) rfl).2
    have h2 : va_RA s (gA g t) (.object C) := by
      rcases ht with ⟨rfl, rfl⟩ | ⟨rfl, rfl⟩ | ⟨rfl, rfl⟩
      · exact (hK.2 3 (gA g 3, .object RX3) rfl).2
      · exact (hK.2 4 (gA g 4, .object RX0) rfl).2
      · exact (hK.2 5 (gA g 5, .object RX2) rfl).2
    obtain ⟨_, _, _, _, _, a1⟩ := h1
    obtain ⟨_, _, _, _, _, a2⟩ := h2
    exact Option.some.inj (a1.symm.trans a2)
  subst eA
  refine w_sz (fun _ hsz1 => ?_)
  have ez := new_at hP1 hD1 (by omega)
  subst ez
  have K1 := K H1 locs
  rw [ref_map st (by omega)] at K1
  refine K1 (fun _ => ?_) hL
  rw [wp_push (h' := h) (q' := upP q n 0)] at hP1
  · exact (hR.after hP1 hS1).1
  · rw [pcell_r hk (by omega), upP_s]
    have : (fun j => if j < 0 then some (gB g + rfA n j) else none) = (fun _ => (none : Option Nat)) := by
      funext j
      exact if_neg (by omega)
    rw [this]
  · intro j hj
    exact pcell_q (upP_n (by omega))
/-- an object comes into its row -/
theorem wc_aast {y j a : Nat} (t ci : Nat) (pc' : Nat) (hk : kd a = t + 10) (ht : (t = 3 ∧ ci = 3) ∨ (t = 4 ∧ ci = 0) ∨ (t = 5 ∧ ci = 2)) (hq : q a = j) (hj : j < kn a) (hy : rfA a j = y) (hyk : kd y = ci) (hyn : y < n) (han : a < n) (hn5 : n ≤ 146) (hd : decode (dB d) pc = .ok (.aastore, 1)) (hp : pc + 1 = pc') (hN : n ≤ N1)
    (kk : Wc g d N0 N1 n pc' ls st (upP q a (j + 1)) h Q) : Wc g d N0 N1 n pc ls (.ref y :: .int (nI j) :: .ref a :: st) q h Q := by
  subst hp
  refine wc_of (fun p e R s m args below meth c cells slots Qf X _ _ H locs lsr hR hL hV K => ?_) hN kk
  have hkn := kn_le a (by omega)
  have hK := X.2.2.2.2.2.1.1.1
  have e1 : (Value.ref y :: Value.int (nI j) :: Value.ref a :: st).map (cv g) = .ref (gB g + y) :: .int (nI j) :: .ref (gB g + a) :: st.map (cv g) := by
    rw [ref_map _ (by omega), List.map_cons, ref_map _ (by omega)]; rfl
  rw [e1]
  have go : ∀ (cq : vw_C), vwCl[ci]? = some cq → (tysG g)[t]? = some (gA g t, .object cq.1) → W p (gL g) e R s m args below meth c H locs cells slots Qf (F0 m pc lsr (.ref (gB g + y) :: .int (nI j) :: .ref (gB g + a) :: st.map (cv g))) := by
    intro cq hcq htt
    have hci := vwCl_lt hcq
    refine va_astq (r := cq) X.1 X.2.1 hK hR.1 wp_D (Rep.S (h := h) hL) a t y ci ((wp_get han).trans (by rw [pcell_r hk (by omega)])) htt ((wp_get hyn).trans (by rw [pcell_obj hyk (by omega)])) hcq (vp_in_nI hj (by omega)) hd (fun H1 locs1 hP1 _ hS1 => ?_)
    rw [wp_set (h' := h) (q' := upP q a (j + 1))] at hP1
    · obtain ⟨r1, r2⟩ := hR.after hP1 hS1
      exact K H1 locs1 lsr r1 r2 hV
    · rw [pcell_r hk (by omega), upP_s, nI_clamp (by omega), hq]
      congr 7
      funext z
      show (if z < j + 1 then some (gB g + rfA a z) else none) = (if z = j then some (gB g + y) else if z < j then some (gB g + rfA a z) else none)
      by_cases z1 : z = j
      · rw [if_pos z1, if_pos (by omega), z1, hy]
      · rw [if_neg z1]
        by_cases z2 : z < j
        · rw [if_pos z2, if_pos (by omega)]
        · rw [if_neg z2, if_neg (by omega)]
    · intro j' _ hj'
      exact pcell_q (upP_n hj')
  rcases ht with ⟨rfl, rfl⟩ | ⟨rfl, rfl⟩ | ⟨rfl, rfl⟩
  · exact go _ rfl rfl
  · exact go _ rfl rfl
  · exact go _ rfl rfl
/-- a char comes into the row of words -/
theorem wc_castc {x i : Int32} {a : Nat} (pc' : Nat) (hk : kd a = 11) (han : a < n) (hn5 : n ≤ 146) (hi : vp_in i (kn a)) (hx : vp_nar .char x = x) (hd : decode (dB d) pc = .ok (.castore, 1)) (hp : pc + 1 = pc') (hN : n ≤ N1)
    (kk : Wc g d N0 N1 n pc' ls st q (si h a (ix i) x) Q) : Wc g d N0 N1 n pc ls (.int x :: .int i :: .ref a :: st) q h Q := by
  subst hp
  refine wc_of (fun p e R s m args below meth c cells slots Qf X _ _ H locs lsr hR hL hV K => ?_) hN kk
  have hK := X.2.2.2.2.2.1.1.1
  rw [List.map_cons, List.map_cons, ref_map st (by omega)]
  refine va_cast X.1 X.2.1 hK hR.1 wp_D (Rep.S (h := h) hL) a 1 ((wp_get han).trans (by rw [pcell_c hk])) rfl hi hd (fun H1 locs1 hP1 _ hS1 => ?_)
  rw [wp_set (h' := si h a (ix i) x) (q' := q)] at hP1
  · obtain ⟨r1, r2⟩ := hR.after hP1 hS1
    exact K H1 locs1 lsr r1 r2 hV
  · rw [pcell_c hk, hx]
    congr 4
    funext z
    show gi (si h a (ix i) x) a z = upd (gi h a) (ix i) x z
    rw [gi_si]
    unfold upd
    by_cases z1 : z = ix i
    · rw [if_pos ⟨rfl, z1⟩, if_pos z1]
    · rw [if_neg (fun w => z1 w.2), if_neg z1]
  · intro j _ hj
    exact pcell_h (fun k => by rw [gi_si, if_neg (fun w => hj w.1)]) (fun _ => rfl)
/-! constructors as contracts -/
def PcC (g : GE) (n : Nat) (q : PG) (h : HP) (b : Nat) : Array Value → State → Prop := fun a U => a = #[.ref (adr g b)] ∧ RepC g n q h U.heap ∧ U.heap.size = gB g + n ∧ FZc g U
def QcC (g : GE) (N1 : Nat) (Q : PG → HP → Prop) : Array Value → State → Outcome → State → Prop := fun _ _ oc t => ∃ (q' : PG) (h' : HP), oc = .returned none ∧ Q q' h' ∧ RepC g N1 q' h' t.heap
abbrev rmC (d : MD) (n N1 : Nat) : Room := { frames := dF d, cells := N1 - n, slots := sS N1 - sS n, locals := dW d }
def rtC (d : MD) (Q : PG → HP → Prop) : Nat → List (Option Value) → PG → HP → Prop := fun pc' _ q' h' => decode (dB d) pc' = .ok (.return_, 1) ∧ Q q' h'
theorem metc_of {b : Nat} {Q : PG → HP → Prop} (hm : MO d) (hret : dR d = none) (hnm : (dY d).name = "<init>") (hl : 1 ≤ dN d) (k : Wc g d n N1 n 0 [some (.ref b)] [] q h (rtC d Q)) : Met (gL g) (dY d) (wsM d) (rmC d n N1) (PcC g n q h b) (QcC g N1 Q) (N1 - n) (sS N1 - sS n) (frA g) := by
  refine Met.ofW (cc := dB d) (maxL := dN d) (ret := dR d) hm.1 rfl ?_
  intro p e s m args below meth c s₁ B hml hv
  obtain ⟨rfl, hR, hsz, hz⟩ := hv
  have hts : ∀ w ∈ lwg, w.before #[Value.ref (adr g b)] s = true := fun w hw => atoms_spec (ws := wsM d) B.pre w (List.mem_cons_of_mem _ hw)
  have hown : s.vm.findClass (dO d) = some m.cls := by rw [hm.2.1]; exact findClass_of_methodNamed B.named
  have hin : meth.name = "<init>" := (name_of_methodNamed B.named B.method).1.trans hnm
  have hlocks := B.notSynchronized
  have hlv := lv_entry ([Value.ref (adr g b)]) (n := dN d) hl
  rw [show (#[Value.ref (adr g b)] : Array Value) = ([Value.ref (adr g b)] : List Value).toArray from rfl, lg_entry_eq]
  have K := k (Nat.le_refl _) p e (rmC d n N1) s m #[Value.ref (adr g b)] below meth c (MQ below (QcC g N1 Q) #[Value.ref (adr g b)] s (N1 - n) (sS N1 - sS n) (frA g)) ⟨B.exec, B.bytes, hml, hown, hts, hz, Nat.le_refl _, Nat.le_refl _, hsz, fun _ => hin⟩ (Nat.le_refl _) (Nat.le_refl _) ?_ s.heap [] _ hR (fun z hz => by cases hz) ⟨hlv.1, hlv.2.1, fun i v hi => ?_⟩
  · rw [Nat.sub_self, Nat.sub_self] at K
    exact K
  · intro pc' ls' lsr' H' locs' q' h' hq hR' hL' _
    exact W.vret B.exec B.bytes (B.returns.trans hret) (fun t ht hW => ⟨q', h', rfl, hq.2, by rw [ht]; exact hR'⟩) hL' hq.1
  · match i, hi with
    | 0, hi =>
      simp at hi
      subst hi
      exact hlv.2.2 (0, .ref (adr g b)) List.mem_cons_self
    | i + 1, hi => simp at hi
/-- a constructor is called -/
theorem wc_call {i b : Nat} (d2 : MD) (n' : Nat) (Q1 : PG → HP → Prop) (pc' : Nat) (hm : MO d2) (hret : dR d2 = none) (hnm : (dY d2).name = "<init>") (hl1 : 1 ≤ dN d2) (hp2 : npar d2 0) (hl : Cond.methodLink (dO d) i (dY d2) ∈ lwg) (hi : Cond.instanceMethod (dY d2) ∈ lwg) (hroom : dF d2 + 1 ≤ dF d ∧ 8 + (dN d2 + 11) + dW d2 ≤ dW d)
    (hd : decode (dB d) pc = .ok (.invokespecial i, 3)) (hp : pc + 3 = pc') (hrest : (st.map fun v => v.category).sum ≤ 8) (hn' : n ≤ n') (hN : n' ≤ N1) (hn0 : 0 < n)
    (k1 : Wc g d2 n n' n 0 [some (.ref b)] [] q h (rtC d2 Q1))
    (k2 : ∀ (q' : PG) (h' : HP), Q1 q' h' → Wc g d N0 N1 n' pc' ls st q' h' Q) : Wc g d N0 N1 n pc ls (.ref b :: st) q h Q := by
  subst hp
  intro hn p e R s m args below meth c Qf X r1 r2 RET H locs lsr hR hL hV
  have hM := metc_of hm hret hnm hl1 k1
  obtain ⟨hx, hb2, hml, hown, hts, hz, hF, hW2, hsz, -⟩ := id X
  have hG : ∀ w ∈ wsM d2, w ∈ lwg := fun w hw => by
    rcases List.mem_cons.mp hw with rfl | hw
    · exact hm.2.2.1
    · exact hw
  have s1 := sS_le hN
  have s2 := sS_le hn'
  have s3 := sS_le hn
  refine w_sz (fun _ hs1 => ?_)
  have hs2 : gB g + (n - 1) < H.size := (hR.1 (n - 1) _ (wp_get (by omega))).lt
  have cw := cwI (own := dO d) (index := i) (y := dY d2) (R := R) (args := args) (s := s) (Ts := lwg) (ws := wsM d2) (ws' := lwg) (bytes := dB d2) (maxL := dN d2) (rm := rmC d2 n n') (mc := n' - n) (ms := sS n' - sS n) 0 hts (lwg_good hG) (by show Cond.code (dY d2) (dB d2) (dN d2) (dR d2) :: lwg = _; rw [hret]) rfl rfl (hts _ hm.2.2.2.1) (hts _ hl) (hts _ hi) hnm ⟨hm.2.2.2.2.1, hm.2.2.2.2.2, hp2⟩ ⟨Nat.le_trans hroom.1 hF, Nat.le_trans hroom.2 hW2⟩
  have blind : FrameBlind (PcC g n q h b) := fun _ _ _ _ z => ⟨z.1, z.2.1, z.2.2.1, z.2.2.2.same rfl⟩
  have run := va_runI (l := gL g) (e := e) (below := below) (meth := meth) (locs := locs) (cells := n - N0) (slots := sS n - sS N0) (b := adr g b) (As := []) (rest := st.map (cv g)) (g := F0 m pc lsr (.ref (adr g b) :: st.map (cv g))) (cc := dB d) (nL := dN d) (H := H) ⟨hx, hb2, hml, hown, hts⟩ hM cw ⟨blind, fun U hU hW => ⟨rfl, by rw [hU]; exact hR, by rw [hU]; omega, hz.warm hW⟩⟩ rfl rfl hV.1 rfl (rest_ok hrest) hd ⟨by omega, by omega⟩
  intro T hT X0
  obtain ⟨v, st₀, t, T', L, h0, X', hL2, e1, e2, ⟨q', h', hv, hq1, hR'⟩, stp⟩ := run T hT X0
  cases hv
  have hl2 : LO g (locs ++ L) := fun z hz => by
    rcases List.mem_append.mp hz with h9 | h9
    · exact hL z h9
    · exact hL2 z h9
  have K := k2 q' h' hq1 (by omega) p e R s m args below meth c Qf X r1 r2 RET t.heap (locs ++ L) lsr hR' hl2 hV
  rw [show n' - N0 = n - N0 + (n' - n) by omega, show sS n' - sS N0 = sS n - sS N0 + (sS n' - sS n) by omega] at K
  obtain ⟨t2, a1, b1⟩ := K T' e1 X'
  exact ⟨t2, stp t2 a1, b1⟩
end Wcs
