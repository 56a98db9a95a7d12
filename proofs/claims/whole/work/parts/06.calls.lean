/-! calls -/
/-- the words of a method: its code first -/
abbrev wsM (d : MD) : List Cond := Cond.code (dY d) (dB d) (dN d) (dR d) :: lwg
abbrev rmM (d : MD) : Room := { frames := dF d, cells := 0, slots := 0, locals := dW d }
def PcM (g : GE) (h : HP) (vs : List Value) : Array Value → State → Prop := fun a U => a = (vs.map (cv g)).toArray ∧ Rep g h U.heap ∧ FZ g U
def QcM (g : GE) (d : MD) (Q : Option Value → HP → Prop) : Array Value → State → Outcome → State → Prop := fun _ _ oc t => ∃ (r : Option Value) (h' : HP), oc = .returned (r.map (cv g)) ∧ Q r h' ∧ RV d r ∧ Rep g h' t.heap ∧ FZ g t
/-- what a method's name and tables must say -/
def MO (d : MD) : Prop := plainName (dY d).cls = true ∧ dO d = (dY d).cls ∧ Cond.code (dY d) (dB d) (dN d) (dR d) ∈ lwg ∧ Cond.initialized (dY d).cls ∈ lwg ∧ ((dY d).cls ≠ "java/lang/invoke/MethodHandle" ∧ (dY d).cls ≠ "java/lang/invoke/VarHandle")
/-- the locals with which a method begins -/
def ent : List Value → List (Option Value)
  | [] => []
  | v :: vs => if v.category = 2 then some v :: none :: ent vs else some v :: ent vs
theorem ent_args (g : GE) (vs : List Value) : ∀ (b i : Nat) (v : Value), (ent vs)[i]? = some (some v) → (b + i, cv g v) ∈ lv_args b (vs.map (cv g)) := by
  induction vs with
  | nil => intro b i v h; simp [ent] at h
  | cons w vs ih =>
    intro b i v h
    show _ ∈ (b, cv g w) :: lv_args (if (cv g w).category = 2 then b + 2 else b + 1) (vs.map (cv g))
    rw [cv_cat]
    by_cases hc : w.category = 2
    · rw [if_pos hc]
      simp only [ent, hc, if_true] at h
      match i, h with
      | 0, h =>
        simp at h
        subst h
        exact List.mem_cons_self
      | 1, h => simp at h
      | i + 2, h =>
        simp only [List.getElem?_cons_succ] at h
        have := ih (b + 2) i v h
        rw [show b + (i + 2) = b + 2 + i by omega]
        exact List.mem_cons_of_mem _ this
    · rw [if_neg hc]
      simp only [ent, hc, if_false] at h
      match i, h with
      | 0, h =>
        simp at h
        subst h
        exact List.mem_cons_self
      | i + 1, h =>
        simp only [List.getElem?_cons_succ] at h
        have := ih (b + 1) i v h
        rw [show b + (i + 1) = b + 1 + i by omega]
        exact List.mem_cons_of_mem _ this
theorem sl_len (g : GE) (vs : List Value) : (lg_sl (vs.map (cv g))).length = (lg_sl vs).length := by
  induction vs with
  | nil => rfl
  | cons v vs ih =>
    simp only [lg_sl, List.map_cons, List.flatMap_cons, List.length_append] at ih ⊢
    rw [ih, cv_cat]
    split <;> rfl
/-- a method's contract, out of its walk on the small machine -/
theorem met_of {g : GE} {d : MD} {h : HP} {vs : List Value} {Q : Option Value → HP → Prop} {ls : List (Option Value)} (hm : MO d) (hl : (lg_sl vs).length ≤ dN d) (he : ∀ (i : Nat) (v : Value), ls[i]? = some (some v) → (ent vs)[i]? = some (some v)) (k : Wm g d 0 ls [] h Q) : Met (gL g) (dY d) (wsM d) (rmM d) (PcM g h vs) (QcM g d Q) 0 0 (frA g) := by
  refine Met.ofW (cc := dB d) (maxL := dN d) (ret := dR d) hm.1 rfl ?_
  intro p e s m args below meth c s₁ B hml hv
  obtain ⟨rfl, hR, hz⟩ := hv
  have hts : ∀ w ∈ lwg, w.before ((vs.map (cv g)).toArray) s = true := fun w hw => atoms_spec (ws := wsM d) B.pre w (List.mem_cons_of_mem _ hw)
  have hown : s.vm.findClass (dO d) = some m.cls := by rw [hm.2.1]; exact findClass_of_methodNamed B.named
  have hlocks := B.notSynchronized
  have hlv := lv_entry (vs.map (cv g)) (n := dN d) (by rw [sl_len]; exact hl)
  rw [lg_entry_eq]
  refine k p e (rmM d) s m _ below meth c 0 0 _ ⟨B.exec, B.bytes, hml, hown, hts, hz, Nat.le_refl _, Nat.le_refl _, Nat.le_refl _, Nat.le_refl _⟩ ?_ s.heap [] _ hR (fun q hq => by cases hq) ⟨hlv.1, hlv.2.1, fun i v hi => hlv.2.2 (i, cv g v) (by have := ent_args g vs 0 i v (he i v hi); rw [Nat.zero_add] at this; exact this)⟩
  intro pc' lsr' H' locs' r h' hq hR' hL' hrv hrd
  have hr : meth.sig.returnType = dR d := B.returns
  match r, hrv, hrd with
  | none, hrv, hrd =>
    exact W.vret B.exec B.bytes (hr.trans hrv) (fun t ht hW => ⟨none, h', rfl, hq, hrv, by rw [ht]; exact hR', hz.warm hW⟩) hL' hrd
  | some (.int v), hrv, hrd =>
    obtain ⟨ty, ht1, ht2⟩ := hrv
    exact W.zret B.exec B.bytes (hr.trans ht1) ht2 (fun t ht hW => ⟨some (.int v), h', rfl, hq, ⟨ty, ht1, ht2⟩, by rw [ht]; exact hR', hz.warm hW⟩) hL' hrd
  | some (.long v), hrv, hrd =>
    exact W.lret B.exec B.bytes (hr.trans hrv) (fun t ht hW => ⟨some (.long v), h', rfl, hq, hrv, by rw [ht]; exact hR', hz.warm hW⟩) hL' hrd
  | some (.ref _), hrv, _ => exact absurd hrv (fun z => z)
  | some .null, hrv, _ => exact absurd hrv (fun z => z)
  | some (.float _), hrv, _ => exact absurd hrv (fun z => z)
  | some (.double _), hrv, _ => exact absurd hrv (fun z => z)
theorem pcM_blind {g : GE} {h : HP} {vs : List Value} : FrameBlind (PcM g h vs) := fun _ _ _ _ q => ⟨q.1, q.2.1, q.2.2.same rfl⟩
/-- going on behind a call -/
theorem run_go {g : GE} {d2 : MD} {p : Program} {e : Env} {R : Room} {s : State} {m : MethodId} {args : Array Value} {below : List Frame} {meth : Method} {c : Code} {H : Heap} {locs : List Loc} {cells slots : Nat} {Qf : State → Prop} {pc : Nat} {lsr : Array Slot} {st0 : List Value} {rest : List Value} {a : Array Value} {Q1 : Option Value → HP → Prop}
    (hr : va_Run p (gL g) e R s m args below meth c H locs cells slots 0 0 (F0 m pc lsr st0) (rest.map (cv g)) (QcM g d2 Q1 a) (frA g)) (hL : LO g locs)
    (kk : ∀ (r : Option Value) (h' : HP) (H1 : Heap) (locs1 : List Loc), Q1 r h' → RV d2 r → Rep g h' H1 → LO g locs1 → W p (gL g) e R s m args below meth c H1 locs1 cells slots Qf (F0 m (pc + 3) lsr ((r.toList ++ rest).map (cv g)))) : W p (gL g) e R s m args below meth c H locs cells slots Qf (F0 m pc lsr st0) := by
  intro T hT X
  obtain ⟨v, st₀, t, T', L, h0, X', hL2, e1, e2, ⟨r, h', hv, hq, hrv, hR', hz'⟩, st⟩ := hr T hT X
  cases hv
  have hl2 : LO g (locs ++ L) := fun q hq => by
    rcases List.mem_append.mp hq with h9 | h9
    · exact hL q h9
    · exact hL2 q h9
  obtain ⟨t2, a1, b1⟩ := kk r h' t.heap (locs ++ L) hq hrv hR' hl2 T' e1 X'
  refine ⟨t2, st t2 ?_, b1⟩
  have e3 : (r.map (cv g)).toList ++ rest.map (cv g) = (r.toList ++ rest).map (cv g) := by
    cases r <;> simp
  rw [e3]
  exact a1
def npar (d : MD) (n : Nat) : Prop := (parseMethodDescriptor (dY d).desc).map (fun q => q.parameters.length) = some n
/-- an instance method is called -/
theorem wm_callV {g : GE} {d : MD} {pc : Nat} {ls : List (Option Value)} {h : HP} {Q : Option Value → HP → Prop} (d2 : MD) {i b : Nat} (n ci : Nat) (As rest st : List Value) (Q1 : Option Value → HP → Prop) (pc' : Nat) (hm : MO d2) (hp2 : npar d2 n) (hl : Cond.methodLink (dO d) i (dY d2) ∈ lwg) (hi : Cond.instanceMethod (dY d2) ∈ lwg) (hs : Cond.selects (dO d2) (dY d2) (dY d2) ∈ lwg) (hroom : dF d2 + 1 ≤ dF d ∧ 8 + (dN d2 + 11) + dW d2 ≤ dW d)
    (hd : decode (dB d) pc = .ok (.invokevirtual i, 3)) (hp : pc + 3 = pc') (hst : As.reverse ++ .ref b :: rest = st) (hn : As.length = n) (hrest : (rest.map fun v => v.category).sum ≤ 8) (hb : kd b = ci) (hci : (vwCl.map (fun q => q.1))[ci]? = some (dO d2))
    (he : (lg_sl (.ref b :: As)).length ≤ dN d2) (ls2 : List (Option Value)) (he2 : ∀ (i : Nat) (v : Value), ls2[i]? = some (some v) → (ent (.ref b :: As))[i]? = some (some v)) (k1 : Wm g d2 0 ls2 [] h Q1)
    (k2 : ∀ (r : Option Value) (h' : HP), Q1 r h' → RV d2 r → Wm g d pc' ls (r.toList ++ rest) h' Q) : Wm g d pc ls st h Q := by
  subst hp
  subst hst
  intro p e R s m args below meth c cells slots Qf X RET H locs lsr hR hL hV
  have hM := met_of hm he he2 k1
  obtain ⟨hx, hb2, hml, hown, hts, hz, hF, hW2, hcl, hsl⟩ := id X
  have hb3 : b < 146 := by
    have hc9 : ci < 9 := by
      have := (List.getElem?_eq_some_iff.mp hci).1
      simpa using this
    exact kd_lt hb (by omega)
  rw [List.map_append, List.map_reverse, ref_map rest (by omega)]
  have hG : ∀ w ∈ wsM d2, w ∈ lwg := fun w hw => by
    rcases List.mem_cons.mp hw with rfl | hw
    · exact hm.2.2.1
    · exact hw
  have cw := cwV (own := dO d) (index := i) (C := dO d2) (y := dY d2) (R := R) (ws := wsM d2) (bytes := dB d2) (maxL := dN d2) (ret := dR d2) (rm := rmM d2) (mc := 0) (ms := 0) n hts (lwg_good (fun w hw => by
    simp only [wsV, List.mem_append, List.mem_cons, List.not_mem_nil, or_false] at hw
    rcases hw with (rfl | rfl | rfl | rfl) | hw
    · exact hl
    · exact hi
    · exact hs
    · rw [hm.2.1]; exact hm.2.2.2.1
    · exact hG w (List.mem_cons.mpr hw))) rfl rfl rfl ⟨hm.2.1.symm, hm.2.2.2.2.1, hm.2.2.2.2.2, hp2⟩ ⟨Nat.le_trans hroom.1 hF, Nat.le_trans hroom.2 hW2⟩
  obtain ⟨q, hq⟩ : ∃ q : vw_C, vwCl[ci]? = some q ∧ q.1 = dO d2 := by
    rw [List.getElem?_map] at hci
    cases hv : vwCl[ci]? with
    | none => rw [hv] at hci; cases hci
    | some q => rw [hv] at hci; exact ⟨q, rfl, Option.some.inj hci⟩
  have hc9 : ci < 9 := vwCl_lt hq.1
  have hrc : ∃ cell : Cell, H[gB g + b]? = some cell ∧ cell.vm.isStatics = false ∧ s.vm.findClass (dO d2) = some cell.cls := by
    rw [← hq.2]
    exact va_recv hz.1 hR.1 hq.1 ((wd_get hb3).trans (by rw [cellE_obj hb (by omega)]))
  have run := va_runV (l := gL g) (e := e) (below := below) (meth := meth) (locs := locs) (cells := cells) (slots := slots) (b := gB g + b) (As := As.map (cv g)) (rest := rest.map (cv g)) (g := F0 m pc lsr ((As.map (cv g)).reverse ++ .ref (gB g + b) :: rest.map (cv g))) (cc := dB d) (nL := dN d) (H := H) ⟨hx, hb2, hml, hown, hts⟩ hM cw ⟨pcM_blind, hrc, fun U hU hW => ⟨by rw [List.map_cons]; show _ = (Value.ref (adr g b) :: _).toArray; rw [adr_lt (by omega)], by rw [hU]; exact hR, hz.warm hW⟩⟩ rfl (by rw [List.length_map]; exact hn) hV.1 rfl (by
    have : ((rest.map (cv g)).map fun v => v.category) = rest.map fun v => v.category := by
      rw [List.map_map]
      exact List.map_congr_left (fun v _ => cv_cat g v)
    rw [this]
    show 2 * 0 + _ ≤ 8
    omega) hd ⟨by omega, by omega⟩
  exact run_go run hL (fun r h' H1 locs1 q1 q2 q3 q4 => k2 r h' q1 q2 p e R s m args below meth c cells slots Qf X RET H1 locs1 lsr q3 q4 hV)
/-- the words below a call's arguments -/
theorem rest_ok {g : GE} {rest : List Value} (hrest : (rest.map fun v => v.category).sum ≤ 8) : 2 * 0 + ((rest.map (cv g)).map fun v => v.category).sum ≤ 8 := by
  have : ((rest.map (cv g)).map fun v => v.category) = rest.map fun v => v.category := by
    rw [List.map_map]
    exact List.map_congr_left (fun v _ => cv_cat g v)
  rw [this]
  omega
/-- a static method is called -/
theorem wm_callS {g : GE} {d : MD} {pc : Nat} {ls : List (Option Value)} {h : HP} {Q : Option Value → HP → Prop} (d2 : MD) {i : Nat} (n : Nat) (As rest st : List Value) (Q1 : Option Value → HP → Prop) (pc' : Nat) (hm : MO d2) (hp2 : npar d2 n) (hl : Cond.methodLink (dO d) i (dY d2) ∈ lwg) (hi : Cond.static (dY d2) ∈ lwg) (hroom : dF d2 + 1 ≤ dF d ∧ 8 + (dN d2 + 11) + dW d2 ≤ dW d)
    (hd : decode (dB d) pc = .ok (.invokestatic i, 3)) (hp : pc + 3 = pc') (hst : As.reverse ++ rest = st) (hn : As.length = n) (hrest : (rest.map fun v => v.category).sum ≤ 8)
    (he : (lg_sl As).length ≤ dN d2) (ls2 : List (Option Value)) (he2 : ∀ (i : Nat) (v : Value), ls2[i]? = some (some v) → (ent As)[i]? = some (some v)) (k1 : Wm g d2 0 ls2 [] h Q1)
    (k2 : ∀ (r : Option Value) (h' : HP), Q1 r h' → RV d2 r → Wm g d pc' ls (r.toList ++ rest) h' Q) : Wm g d pc ls st h Q := by
  subst hp
  subst hst
  intro p e R s m args below meth c cells slots Qf X RET H locs lsr hR hL hV
  have hM := met_of hm he he2 k1
  obtain ⟨hx, hb2, hml, hown, hts, hz, hF, hW2, hcl, hsl⟩ := id X
  rw [List.map_append, List.map_reverse]
  have hG : ∀ w ∈ wsM d2, w ∈ lwg := fun w hw => by
    rcases List.mem_cons.mp hw with rfl | hw
    · exact hm.2.2.1
    · exact hw
  have cw := va_cwS (own := dO d) (index := i) (y := dY d2) (R := R) (ws := wsM d2) (bytes := dB d2) (maxL := dN d2) (ret := dR d2) (rm := rmM d2) (mc := 0) (ms := 0) n hts (lwg_good (fun w hw => by
    simp only [va_wsS, List.mem_append, List.mem_cons, List.not_mem_nil, or_false] at hw
    rcases hw with (rfl | rfl | rfl) | hw
    · exact hl
    · exact hi
    · exact hm.2.2.2.1
    · exact hG w (List.mem_cons.mpr hw))) rfl rfl rfl ⟨hm.2.2.2.2.1, hm.2.2.2.2.2, hp2⟩ ⟨Nat.le_trans hroom.1 hF, Nat.le_trans hroom.2 hW2⟩
  have run := va_runS (l := gL g) (e := e) (below := below) (meth := meth) (locs := locs) (cells := cells) (slots := slots) (As := As.map (cv g)) (rest := rest.map (cv g)) (g := F0 m pc lsr ((As.map (cv g)).reverse ++ rest.map (cv g))) (cc := dB d) (nL := dN d) (H := H) ⟨hx, hb2, hml, hown, hts⟩ hM cw ⟨pcM_blind, fun U hU hW => ⟨rfl, by rw [hU]; exact hR, hz.warm hW⟩⟩ rfl (by rw [List.length_map]; exact hn) hV.1 rfl (rest_ok hrest) hd ⟨by omega, by omega⟩
  exact run_go run hL (fun r h' H1 locs1 q1 q2 q3 q4 => k2 r h' q1 q2 p e R s m args below meth c cells slots Qf X RET H1 locs1 lsr q3 q4 hV)
/-- isIn is called from a class inside -/
theorem wm_callN {g : GE} {d : MD} {pc : Nat} {ls : List (Option Value)} {h : HP} {Q : Option Value → HP → Prop} (d2 : MD) {i : Nat} (n : Nat) (As rest st : List Value) (Q1 : Option Value → HP → Prop) (pc' : Nat) (hm : MO d2) (hp2 : npar d2 n) (hy : dY d2 = yX7_isIn) (hl : (dO d, i) ∈ nmN) (hi : Cond.static (dY d2) ∈ lwg) (hroom : dF d2 + 1 ≤ dF d ∧ 8 + (dN d2 + 11) + dW d2 ≤ dW d)
    (hd : decode (dB d) pc = .ok (.invokestatic i, 3)) (hp : pc + 3 = pc') (hst : As.reverse ++ rest = st) (hn : As.length = n) (hrest : (rest.map fun v => v.category).sum ≤ 8)
    (he : (lg_sl As).length ≤ dN d2) (ls2 : List (Option Value)) (he2 : ∀ (i : Nat) (v : Value), ls2[i]? = some (some v) → (ent As)[i]? = some (some v)) (k1 : Wm g d2 0 ls2 [] h Q1)
    (k2 : ∀ (r : Option Value) (h' : HP), Q1 r h' → RV d2 r → Wm g d pc' ls (r.toList ++ rest) h' Q) : Wm g d pc ls st h Q := by
  subst hp
  subst hst
  intro p e R s m args below meth c cells slots Qf X RET H locs lsr hR hL hV
  have hM := met_of hm he he2 k1
  obtain ⟨hx, hb2, hml, hown, hts, hz, hF, hW2, hcl, hsl⟩ := id X
  rw [List.map_append, List.map_reverse]
  have hG : ∀ w ∈ wsM d2, w ∈ lwg := fun w hw => by
    rcases List.mem_cons.mp hw with rfl | hw
    · exact hm.2.2.1
    · exact hw
  have hnw : va_Nw (.methodLinkNest (dO d) i (dY d2) RX7) s := by rw [hy]; exact hz.2.2.2 _ hl
  have cw := va_cnB (own := dO d) (index := i) (y := dY d2) (R := R) (ws := wsM d2) (bytes := dB d2) (maxL := dN d2) (ret := dR d2) (rm := rmM d2) (mc := 0) (ms := 0) n hts (lwg_good hG) rfl rfl rfl hnw (hts _ hm.2.2.2.1) ⟨hm.2.2.2.2.1, hm.2.2.2.2.2, hp2⟩ ⟨Nat.le_trans hroom.1 hF, Nat.le_trans hroom.2 hW2⟩
  have run := va_runSN (l := gL g) (e := e) (below := below) (meth := meth) (locs := locs) (cells := cells) (slots := slots) (As := As.map (cv g)) (rest := rest.map (cv g)) (g := F0 m pc lsr ((As.map (cv g)).reverse ++ rest.map (cv g))) (cc := dB d) (nL := dN d) (H := H) ⟨hx, hb2, hml, hown, hts⟩ hM ⟨cw, hts _ hi, trivial⟩ ⟨pcM_blind, fun U hU hW => ⟨rfl, by rw [hU]; exact hR, hz.warm hW⟩⟩ rfl (by rw [List.length_map]; exact hn) hV.1 rfl (rest_ok hrest) hd ⟨by omega, by omega⟩
  exact run_go run hL (fun r h' H1 locs1 q1 q2 q3 q4 => k2 r h' q1 q2 p e R s m args below meth c cells slots Qf X RET H1 locs1 lsr q3 q4 hV)
/-- Math.max, Math.min -/
theorem wm_max {g : GE} {d : MD} {pc : Nat} {ls : List (Option Value)} {st : List Value} {h : HP} {Q : Option Value → HP → Prop} {i : Nat} {x y : Int32} (pc' : Nat) (hl : Cond.methodLink (dO d) i Lib.Math.max.name ∈ lwg) (hs : Cond.static Lib.Math.max.name ∈ lwg) (hi : Cond.initialized "java/lang/Math" ∈ lwg) (hc : Cond.code Lib.Math.max.name Lib.Math.max.code 2 (some .int) ∈ lwg) (hroom : 1 ≤ dF d ∧ 21 ≤ dW d) (hrest : (st.map fun v => v.category).sum ≤ 8) (hd : decode (dB d) pc = .ok (.invokestatic i, 3)) (hp : pc + 3 = pc') (kk : Wm g d pc' ls (.int (if x < y then y else x) :: st) h Q) : Wm g d pc ls (.int y :: .int x :: st) h Q := by
  subst hp
  refine wm_of (fun p e R s m args below meth c cells slots Qf X H locs lsr hR hL hV K => ?_) kk
  obtain ⟨hx, hb2, hml, hown, hts, hz, hF, hW2, hcl, hsl⟩ := id X
  have hr := rest_ok (g := g) hrest
  exact va_mmax hx hb2 (hml.trans hV.1.symm) hown (hts _ hl) (hts _ hs) (hts _ hi) (hts _ hc) (by omega) (by omega) hcl hsl hd (K H locs lsr hR hL hV)
theorem wm_min {g : GE} {d : MD} {pc : Nat} {ls : List (Option Value)} {st : List Value} {h : HP} {Q : Option Value → HP → Prop} {i : Nat} {x y : Int32} (pc' : Nat) (hl : Cond.methodLink (dO d) i Lib.Math.min.name ∈ lwg) (hs : Cond.static Lib.Math.min.name ∈ lwg) (hi : Cond.initialized "java/lang/Math" ∈ lwg) (hc : Cond.code Lib.Math.min.name Lib.Math.min.code 2 (some .int) ∈ lwg) (hroom : 1 ≤ dF d ∧ 21 ≤ dW d) (hrest : (st.map fun v => v.category).sum ≤ 8) (hd : decode (dB d) pc = .ok (.invokestatic i, 3)) (hp : pc + 3 = pc') (kk : Wm g d pc' ls (.int (if y < x then y else x) :: st) h Q) : Wm g d pc ls (.int y :: .int x :: st) h Q := by
  subst hp
  refine wm_of (fun p e R s m args below meth c cells slots Qf X H locs lsr hR hL hV K => ?_) kk
  obtain ⟨hx, hb2, hml, hown, hts, hz, hF, hW2, hcl, hsl⟩ := id X
  have hr := rest_ok (g := g) hrest
  exact va_mmin hx hb2 (hml.trans hV.1.symm) hown (hts _ hl) (hts _ hs) (hts _ hi) (hts _ hc) (by omega) (by omega) hcl hsl hd (K H locs lsr hR hL hV)
theorem fit_i (x : Int32) : fits .int (.int x) = true := rfl
theorem wd_cpi {g : GE} {h : HP} {a b sp dp n : Nat} {e : va_E} (he : cellE g (cpi h a b sp dp n) b = e) : (wd g h).set b (gB g + b, e) = wd g (cpi h a b sp dp n) := by
  refine wd_set he (fun j _ hj => cellE_congr (fun m => ?_) (fun _ => rfl) (fun _ => rfl) (fun _ => rfl))
  rw [gi_cpi, if_neg (fun q => hj q.1)]
theorem wd_cpl {g : GE} {h : HP} {a b sp dp n : Nat} {e : va_E} (he : cellE g (cpl h a b sp dp n) b = e) : (wd g h).set b (gB g + b, e) = wd g (cpl h a b sp dp n) := by
  refine wd_set he (fun j _ hj => cellE_congr (fun _ => rfl) (fun m => ?_) (fun _ => rfl) (fun _ => rfl))
  rw [gl_cpl, if_neg (fun q => hj q.1)]
theorem cpy_len : nativeFrameWords "java/lang/System" "arraycopy" 5 + 11 ≤ 18 := by decide +kernel
/-- System.arraycopy of ints -/
theorem wm_cpi {g : GE} {d : MD} {pc : Nat} {ls : List (Option Value)} {st : List Value} {h : HP} {Q : Option Value → HP → Prop} {i a b : Nat} {sp dp n : Int32} (na nb : Nat) (pc' : Nat) (hl : Cond.methodLink (dO d) i arraycopyName ∈ lwg) (hnv : Cond.native arraycopyName ∈ lwg) (hs : Cond.static arraycopyName ∈ lwg) (hi : Cond.initialized "java/lang/System" ∈ lwg) (hroom : 1 ≤ dF d ∧ 26 ≤ dW d) (hrest : (st.map fun v => v.category).sum ≤ 8) (hd : decode (dB d) pc = .ok (.invokestatic i, 3)) (hp : pc + 3 = pc') (ha : kd a = 10) (hb : kd b = 10) (hna : kn a = na) (hnb : kn b = nb) (hin : ¬ sp < 0 ∧ ¬ dp < 0 ∧ ¬ n < 0 ∧ ix sp + ix n ≤ na ∧ ix dp + ix n ≤ nb)
    (kk : Wm g d pc' ls st (cpi h a b (ix sp) (ix dp) (ix n)) Q) : Wm g d pc ls (.int n :: .int dp :: .ref b :: .int sp :: .ref a :: st) h Q := by
  subst hp
  refine wm_of (fun p e R s m args below meth c cells slots Qf X H locs lsr hR hL hV K => ?_) kk
  obtain ⟨hx, hb2, hml, hown, hts, hz, hF, hW2, hcl, hsl⟩ := id X
  have hr := rest_ok (g := g) hrest
  have ha2 := kd_lt ha (by omega)
  have hb3 := kd_lt hb (by omega)
  have hcl5 := cpy_len
  rw [List.map_cons, List.map_cons, ref_map _ (by omega), List.map_cons, ref_map _ (by omega)]
  refine va_copyi (ty := .int) hx hb2 (hml.trans hV.1.symm) hown (hts _ hl) (hts _ hnv) (hts _ hs) (hts _ hi) hz.1 hR.1 (wd_D g h) (Rep.S (h := h) hL) a b 0 0 ((wd_get ha2).trans (by rw [cellE_i ha, hna])) ((wd_get hb3).trans (by rw [cellE_i hb, hnb])) rfl rfl rfl hin.1 hin.2.1 hin.2.2.1 hin.2.2.2.1 hin.2.2.2.2 (fun _ _ => rfl) (by omega) (by omega) hd (fun H1 locs1 hP1 _ hS1 => ?_)
  rw [wd_cpi (a := a) (sp := ix sp) (dp := ix dp) (n := ix n)] at hP1
  · obtain ⟨r1, r2⟩ := hR.after hP1 hS1
    exact K H1 locs1 lsr r1 r2 hV
  · rw [cellE_i hb, hnb]
    congr 4
    funext j
    show gi (cpi h a b (ix sp) (ix dp) (ix n)) b j = va_cpy (gi h a) (gi h b) (ix sp) (ix dp) (ix n) j
    rw [gi_cpi]
    unfold va_cpy
    by_cases hj : ix dp ≤ j ∧ j < ix dp + ix n
    · rw [if_pos ⟨rfl, hj⟩, if_pos hj]
    · rw [if_neg (fun q => hj q.2), if_neg hj]
/-- System.arraycopy of longs -/
theorem wm_cpl {g : GE} {d : MD} {pc : Nat} {ls : List (Option Value)} {st : List Value} {h : HP} {Q : Option Value → HP → Prop} {i a b : Nat} {sp dp n : Int32} (na nb : Nat) (pc' : Nat) (hl : Cond.methodLink (dO d) i arraycopyName ∈ lwg) (hnv : Cond.native arraycopyName ∈ lwg) (hs : Cond.static arraycopyName ∈ lwg) (hi : Cond.initialized "java/lang/System" ∈ lwg) (hroom : 1 ≤ dF d ∧ 26 ≤ dW d) (hrest : (st.map fun v => v.category).sum ≤ 8) (hd : decode (dB d) pc = .ok (.invokestatic i, 3)) (hp : pc + 3 = pc') (ha : kd a = 12) (hb : kd b = 12) (hna : kn a = na) (hnb : kn b = nb) (hin : ¬ sp < 0 ∧ ¬ dp < 0 ∧ ¬ n < 0 ∧ ix sp + ix n ≤ na ∧ ix dp + ix n ≤ nb)
    (kk : Wm g d pc' ls st (cpl h a b (ix sp) (ix dp) (ix n)) Q) : Wm g d pc ls (.int n :: .int dp :: .ref b :: .int sp :: .ref a :: st) h Q := by
  subst hp
  refine wm_of (fun p e R s m args below meth c cells slots Qf X H locs lsr hR hL hV K => ?_) kk
  obtain ⟨hx, hb2, hml, hown, hts, hz, hF, hW2, hcl, hsl⟩ := id X
  have hr := rest_ok (g := g) hrest
  have ha2 := kd_lt ha (by omega)
  have hb3 := kd_lt hb (by omega)
  have hcl5 := cpy_len
  rw [List.map_cons, List.map_cons, ref_map _ (by omega), List.map_cons, ref_map _ (by omega)]
  refine va_copyl (ty := .long) hx hb2 (hml.trans hV.1.symm) hown (hts _ hl) (hts _ hnv) (hts _ hs) (hts _ hi) hz.1 hR.1 (wd_D g h) (Rep.S (h := h) hL) a b 2 2 ((wd_get ha2).trans (by rw [cellE_l ha, hna])) ((wd_get hb3).trans (by rw [cellE_l hb, hnb])) rfl rfl rfl hin.1 hin.2.1 hin.2.2.1 hin.2.2.2.1 hin.2.2.2.2 (fun _ _ => rfl) (by omega) (by omega) hd (fun H1 locs1 hP1 _ hS1 => ?_)
  rw [wd_cpl (a := a) (sp := ix sp) (dp := ix dp) (n := ix n)] at hP1
  · obtain ⟨r1, r2⟩ := hR.after hP1 hS1
    exact K H1 locs1 lsr r1 r2 hV
  · rw [cellE_l hb, hnb]
    congr 5
    funext j
    show gl (cpl h a b (ix sp) (ix dp) (ix n)) b j = va_cpy (gl h a) (gl h b) (ix sp) (ix dp) (ix n) j
    rw [gl_cpl]
    unfold va_cpy
    by_cases hj : ix dp ≤ j ∧ j < ix dp + ix n
    · rw [if_pos ⟨rfl, hj⟩, if_pos hj]
    · rw [if_neg (fun q => hj q.2), if_neg hj]
