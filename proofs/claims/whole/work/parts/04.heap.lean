/-! classes by their numbers: what the tables say of them -/
theorem mem_r {big : List Cond} (ws : List Cond) (ps : List Nat) (hp : ws = ps.filterMap (fun i => big[i]?)) (hg : ws.all goodWord = true) : ∀ w ∈ ws, w ∈ big.filter goodWord := by
  intro w hw
  have h1 := List.all_eq_true.mp hg w hw
  rw [hp] at hw
  obtain ⟨i, -, hi⟩ := List.mem_filterMap.mp hw
  exact List.mem_filter.mpr ⟨List.mem_of_getElem? hi, h1⟩
theorem in_X0 : ∀ w ∈ u_ws RX0 TX0 10, w ∈ lwg := mem_r _ [189, 191, 193, 195, 197, 199, 201, 203, 205, 207] (by decide +kernel) (by decide +kernel)
theorem in_X1 : ∀ w ∈ u_ws RX1 TX1 17, w ∈ lwg := mem_r _ [271, 273, 275, 277, 279, 281, 283, 285, 287, 289, 291, 293, 295, 297, 299, 301, 303] (by decide +kernel) (by decide +kernel)
theorem in_X2 : ∀ w ∈ u_ws RX2 TX2 3, w ∈ lwg := mem_r _ [381, 383, 385] (by decide +kernel) (by decide +kernel)
theorem in_X3 : ∀ w ∈ u_ws RX3 TX3 3, w ∈ lwg := mem_r _ [142, 144, 146] (by decide +kernel) (by decide +kernel)
theorem in_X4 : ∀ w ∈ u_ws RX4 TX4 7, w ∈ lwg := mem_r _ [321, 323, 325, 327, 329, 331, 333] (by decide +kernel) (by decide +kernel)
theorem in_X5 : ∀ w ∈ u_ws RX5 TX5 7, w ∈ lwg := mem_r _ [351, 353, 355, 357, 359, 361, 363] (by decide +kernel) (by decide +kernel)
theorem in_X6 : ∀ w ∈ u_ws RX6 TX6 6, w ∈ lwg := mem_r _ [235, 237, 239, 241, 243, 245] (by decide +kernel) (by decide +kernel)
theorem in_X7 : ∀ w ∈ u_ws RX7 TX7 9, w ∈ lwg := mem_r _ [398, 400, 402, 404, 406, 408, 410, 412, 414] (by decide +kernel) (by decide +kernel)
theorem in_X8 : ∀ w ∈ u_ws RX8 TX8 40, w ∈ lwg := mem_r _ [1131, 1133, 1135, 1137, 1139, 1141, 1143, 1145, 1147, 1149, 1151, 1153, 1155, 1157, 1159, 1161, 1163, 1165, 1167, 1169, 1171, 1173, 1175, 1177, 1179, 1181, 1183, 1185, 1187, 1189, 1191, 1193, 1195, 1197, 1199, 1201, 1203, 1205, 1207, 1209] (by decide +kernel) (by decide +kernel)
def tyC : Nat → Nat → FieldType
  | 0 => tyX0
  | 1 => tyX1
  | 2 => tyX2
  | 3 => tyX3
  | 4 => tyX4
  | 5 => tyX5
  | 6 => tyX6
  | 7 => tyX7
  | _ => tyX8
theorem cls_ok : ∀ (ci : Nat) (q : vw_C), vwCl[ci]? = some q → (∀ w ∈ u_ws q.1 q.2.1 q.2.2, w ∈ lwg) ∧ (∀ k, k < q.2.2 → parseFieldDescriptor (q.2.1 k).2.2.1 = some (tyC ci k)) ∧ (∀ a, a < q.2.2 → ∀ b, b < q.2.2 → a ≠ b → (q.2.1 a).2.1 ≠ (q.2.1 b).2.1)
  | 0, _, h => by cases h; exact ⟨in_X0, tyX0_ok, nmX0⟩
  | 1, _, h => by cases h; exact ⟨in_X1, tyX1_ok, nmX1⟩
  | 2, _, h => by cases h; exact ⟨in_X2, tyX2_ok, nmX2⟩
  | 3, _, h => by cases h; exact ⟨in_X3, tyX3_ok, nmX3⟩
  | 4, _, h => by cases h; exact ⟨in_X4, tyX4_ok, nmX4⟩
  | 5, _, h => by cases h; exact ⟨in_X5, tyX5_ok, nmX5⟩
  | 6, _, h => by cases h; exact ⟨in_X6, tyX6_ok, nmX6⟩
  | 7, _, h => by cases h; exact ⟨in_X7, tyX7_ok, nmX7⟩
  | 8, _, h => by cases h; exact ⟨in_X8, tyX8_ok, nmX8⟩
  | n + 9, _, h => by cases h
/-- an entry of a class's pool that names field k of class ci -/
def FL (own : String) (i ci k : Nat) : Prop := ∃ q : vw_C, vwCl[ci]? = some q ∧ k < q.2.2 ∧ Cond.fieldLink own i (q.2.1 k).1 (q.2.1 k).2.1 (q.2.1 k).2.2.1 ∈ lwg
theorem adr_lt {g : GE} {i : Nat} (h : i < 5000) : adr g i = gB g + i := if_pos h
theorem cellE_obj {g : GE} {h : HP} {i ci : Nat} (hk : kd i = ci) (hc : ci < 10) : cellE g h i = .inr (ci, objF g h i (fc ci)) := by
  unfold cellE
  rw [hk, if_pos hc]
theorem objF_get {g : GE} {h : HP} {i k c : Nat} {cs : List Nat} (hc : cs[k]? = some c) : (objF g h i cs)[k]? = some (fv g h i k c) := by
  simp [objF, List.getElem?_mapIdx, hc]
theorem vwCl_lt {ci : Nat} {q : vw_C} (h : vwCl[ci]? = some q) : ci < 9 := (List.getElem?_eq_some_iff.mp h).1
theorem gi_si {h : HP} {a k x j : Nat} {v : Int32} : gi (si h a k v) x j = if x = a ∧ j = k then v else gi h x j := rfl
theorem gl_si {h : HP} {a k x j : Nat} {v : Int32} : gl (si h a k v) x j = gl h x j := rfl
theorem gw_si {h : HP} {a k j : Nat} {v : Int32} : gw (si h a k v) j = gw h j := rfl
theorem gi_sl {h : HP} {a k x j : Nat} {v : Int64} : gi (sl h a k v) x j = gi h x j := rfl
theorem gl_sl {h : HP} {a k x j : Nat} {v : Int64} : gl (sl h a k v) x j = if x = a ∧ j = k then v else gl h x j := rfl
theorem gw_sl {h : HP} {a k j : Nat} {v : Int64} : gw (sl h a k v) j = gw h j := rfl
theorem gi_sw {h : HP} {k x j v : Nat} : gi (sw h k v) x j = gi h x j := rfl
theorem gl_sw {h : HP} {k x j v : Nat} : gl (sw h k v) x j = gl h x j := rfl
theorem gw_sw {h : HP} {k j v : Nat} : gw (sw h k v) j = if j = k then v else gw h j := rfl
theorem gi_cpi {h : HP} {a b sp dp n x j : Nat} : gi (cpi h a b sp dp n) x j = if x = b ∧ dp ≤ j ∧ j < dp + n then gi h a (sp + (j - dp)) else gi h x j := rfl
theorem gl_cpi {h : HP} {a b sp dp n x j : Nat} : gl (cpi h a b sp dp n) x j = gl h x j := rfl
theorem gw_cpi {h : HP} {a b sp dp n j : Nat} : gw (cpi h a b sp dp n) j = gw h j := rfl
theorem gi_cpl {h : HP} {a b sp dp n x j : Nat} : gi (cpl h a b sp dp n) x j = gi h x j := rfl
theorem gl_cpl {h : HP} {a b sp dp n x j : Nat} : gl (cpl h a b sp dp n) x j = if x = b ∧ dp ≤ j ∧ j < dp + n then gl h a (sp + (j - dp)) else gl h x j := rfl
theorem gw_cpl {h : HP} {a b sp dp n j : Nat} : gw (cpl h a b sp dp n) j = gw h j := rfl
/-- two heaps that agree on a cell -/
theorem cellE_congr {g : GE} {h h' : HP} {i : Nat} (h1 : ∀ j, gi h' i j = gi h i j) (h2 : ∀ j, gl h' i j = gl h i j) (h3 : kd i = 1 → gw h' 0 = gw h 0) (h4 : kd i = 4 → gw h' 1 = gw h 1) : cellE g h' i = cellE g h i := by
  have e1 : gi h' i = gi h i := funext h1
  have e2 : gl h' i = gl h i := funext h2
  unfold cellE
  rw [e1, e2]
  by_cases hk : kd i < 10
  · rw [if_pos hk, if_pos hk]
    congr 2
    unfold objF
    apply List.ext_getElem?
    intro k
    simp only [List.getElem?_mapIdx]
    cases hc : (fc (kd i))[k]? with
    | none => rfl
    | some c =>
      simp only [Option.map_some]
      congr 1
      match c, hc with
      | 0, _ => show Value.int (gi h' i k) = Value.int (gi h i k); rw [h1]
      | 1, hc =>
        have hz : kd i = 1 := by
          have : ∀ n, n < 10 → ∀ m, m < 40 → (fc n)[m]? = some 1 → n = 1 := by decide +kernel
          refine this _ hk k ?_ hc
          have := (List.getElem?_eq_some_iff.mp hc).1
          have h40 : ∀ n, n < 10 → (fc n).length ≤ 40 := by decide +kernel
          have := h40 _ hk
          omega
        show (if gw h' 0 = 0 then _ else _) = _
        rw [h3 hz]
        rfl
      | 2, hc =>
        have hz : kd i = 4 := by
          have : ∀ n, n < 10 → ∀ m, m < 40 → (fc n)[m]? = some 2 → n = 4 := by decide +kernel
          refine this _ hk k ?_ hc
          have := (List.getElem?_eq_some_iff.mp hc).1
          have h40 : ∀ n, n < 10 → (fc n).length ≤ 40 := by decide +kernel
          have := h40 _ hk
          omega
        show (if gw h' 1 = 0 then _ else _) = _
        rw [h4 hz]
        rfl
      | n + 3, _ => rfl
  · rw [if_neg hk, if_neg hk]
theorem wd_si {g : GE} {h : HP} {a k : Nat} {v : Int32} {e : va_E} (he : cellE g (si h a k v) a = e) : (wd g h).set a (gB g + a, e) = wd g (si h a k v) := by
  refine wd_set he (fun j _ hj => cellE_congr (fun n => ?_) (fun _ => rfl) (fun _ => rfl) (fun _ => rfl))
  rw [gi_si, if_neg (fun q => hj q.1)]
theorem wd_sl {g : GE} {h : HP} {a k : Nat} {v : Int64} {e : va_E} (he : cellE g (sl h a k v) a = e) : (wd g h).set a (gB g + a, e) = wd g (sl h a k v) := by
  refine wd_set he (fun j _ hj => cellE_congr (fun _ => rfl) (fun n => ?_) (fun _ => rfl) (fun _ => rfl))
  rw [gl_sl, if_neg (fun q => hj q.1)]
theorem Rep.S {g : GE} {h : HP} {H : Heap} {locs : List Loc} (hL : LO g locs) : va_S (frA g) H H locs := ⟨Nat.le_refl _, fun _ _ _ => rfl, hL⟩
theorem Rep.after {g : GE} {h h' : HP} {H H1 : Heap} {locs1 : List Loc} (hR : Rep g h H) (hP : va_P (gC g, gS g) vwCl (wd g h') H1) (hS : va_S (frA g) H H1 locs1) : Rep g h' H1 ∧ LO g locs1 := by
  refine ⟨⟨hP, Nat.le_trans hR.2.1 hS.1, fun q hq => ?_⟩, hS.2.2⟩
  rw [hS.2.1 q (Nat.lt_of_lt_of_le hq hR.2.1) (Nat.not_le.mpr hq)]
  exact hR.2.2 q hq
/-- a number in a field is read -/
theorem wm_geti {g : GE} {d : MD} {pc : Nat} {ls : List (Option Value)} {st : List Value} {h : HP} {Q : Option Value → HP → Prop} {i x : Nat} (ci k : Nat) (pc' : Nat) (hf : FL (dO d) i ci k) (hd : decode (dB d) pc = .ok (.getfield i, 3)) (hp : pc + 3 = pc') (hx : kd x = ci) (hc : (fc ci)[k]? = some 0) (kk : Wm g d pc' ls (.int (gi h x k) :: st) h Q) : Wm g d pc ls (.ref x :: st) h Q := by
  subst hp
  refine wm_of (fun p e R s m args below meth c cells slots Qf X H locs lsr hR hL hV K => ?_) kk
  obtain ⟨q, hq, hk, hl⟩ := hf
  have hci : ci < 9 := vwCl_lt hq
  have hx2 := kd_lt hx (by omega)
  have e1 : (Value.ref x :: st).map (cv g) = .ref (gB g + x) :: st.map (cv g) := by
    show Value.ref (adr g x) :: _ = _
    rw [adr_lt (by omega)]
  rw [e1]
  refine va_get (D := (gC g, gS g)) (C := q.1) (T := q.2.1) (N := q.2.2) (v := .int (gi h x k)) X.1 X.2.1 X.2.2.2.2.1 (cls_ok ci q hq).1 X.2.2.2.1 X.2.2.2.2.2.1.1 hR.1 x (wd_get hx2 |>.trans (by rw [cellE_obj hx (by omega)])) hq k hk (X.2.2.2.2.1 _ hl) (fun _ h9 => h9) (objF_get hc) hd ?_
  exact K H locs lsr hR hL hV
/-- a reference that never changes is read -/
theorem wm_getr {g : GE} {d : MD} {pc : Nat} {ls : List (Option Value)} {st : List Value} {h : HP} {Q : Option Value → HP → Prop} {i x : Nat} (ci k n : Nat) (y : Nat) (pc' : Nat) (hf : FL (dO d) i ci k) (hd : decode (dB d) pc = .ok (.getfield i, 3)) (hp : pc + 3 = pc') (hx : kd x = ci) (hc : (fc ci)[k]? = some (n + 3)) (hy : x + n = y) (hn : n < 1000) (kk : Wm g d pc' ls (.ref y :: st) h Q) : Wm g d pc ls (.ref x :: st) h Q := by
  subst hp
  subst hy
  refine wm_of (fun p e R s m args below meth c cells slots Qf X H locs lsr hR hL hV K => ?_) kk
  obtain ⟨q, hq, hk, hl⟩ := hf
  have hci : ci < 9 := vwCl_lt hq
  have hx2 := kd_lt hx (by omega)
  have e1 : (Value.ref x :: st).map (cv g) = .ref (gB g + x) :: st.map (cv g) := by
    show Value.ref (adr g x) :: _ = _
    rw [adr_lt (by omega)]
  have e2 : (Value.ref (x + n) :: st).map (cv g) = .ref (gB g + (x + n)) :: st.map (cv g) := by
    show Value.ref (adr g (x + n)) :: _ = _
    rw [adr_lt (by omega)]
  rw [e1]
  refine va_get (D := (gC g, gS g)) (C := q.1) (T := q.2.1) (N := q.2.2) (v := .ref (gB g + (x + n))) X.1 X.2.1 X.2.2.2.2.1 (cls_ok ci q hq).1 X.2.2.2.1 X.2.2.2.2.2.1.1 hR.1 x (wd_get hx2 |>.trans (by rw [cellE_obj hx (by omega)])) hq k hk (X.2.2.2.2.1 _ hl) (fun _ h9 => h9) (objF_get hc) hd ?_
  have K1 := K H locs lsr hR hL hV
  rw [e2] at K1
  exact K1
/-- the world that the network (j 0) or the stream (j 1) looks at is read -/
theorem wm_getw {g : GE} {d : MD} {pc : Nat} {ls : List (Option Value)} {st : List Value} {h : HP} {Q : Option Value → HP → Prop} {i x : Nat} (ci j : Nat) (pc' : Nat) (hf : FL (dO d) i ci 0) (hd : decode (dB d) pc = .ok (.getfield i, 3)) (hp : pc + 3 = pc') (hx : kd x = ci) (hc : (fc ci)[0]? = some (j + 1)) (hj : j < 2) (hw : kd (gw h j) = 6) (kk : Wm g d pc' ls (.ref (gw h j) :: st) h Q) : Wm g d pc ls (.ref x :: st) h Q := by
  subst hp
  refine wm_of (fun p e R s m args below meth c cells slots Qf X H locs lsr hR hL hV K => ?_) kk
  obtain ⟨q, hq, hk, hl⟩ := hf
  have hci : ci < 9 := vwCl_lt hq
  have hx2 := kd_lt hx (by omega)
  have hw2 := kd_lt hw (by omega)
  have hw0 : gw h j ≠ 0 := by
    intro z
    rw [z] at hw
    exact absurd hw (by decide +kernel)
  have e1 : (Value.ref x :: st).map (cv g) = .ref (gB g + x) :: st.map (cv g) := by
    show Value.ref (adr g x) :: _ = _
    rw [adr_lt (by omega)]
  have e2 : (Value.ref (gw h j) :: st).map (cv g) = .ref (gB g + gw h j) :: st.map (cv g) := by
    show Value.ref (adr g (gw h j)) :: _ = _
    rw [adr_lt (by omega)]
  rw [e1]
  refine va_get (D := (gC g, gS g)) (C := q.1) (T := q.2.1) (N := q.2.2) (v := .ref (gB g + gw h j)) X.1 X.2.1 X.2.2.2.2.1 (cls_ok ci q hq).1 X.2.2.2.1 X.2.2.2.2.2.1.1 hR.1 x (wd_get hx2 |>.trans (by rw [cellE_obj hx (by omega)])) hq 0 hk (X.2.2.2.2.1 _ hl) (fun _ h9 => h9) ((objF_get hc).trans ?_) hd ?_
  · have : j = 0 ∨ j = 1 := by omega
    rcases this with rfl | rfl
    · show some (if gw h 0 = 0 then _ else _) = _
      rw [if_neg hw0]
    · show some (if gw h 1 = 0 then _ else _) = _
      rw [if_neg hw0]
  · have K1 := K H locs lsr hR hL hV
    rw [e2] at K1
    exact K1
/-- a number comes into a field -/
theorem wm_puti {g : GE} {d : MD} {pc : Nat} {ls : List (Option Value)} {st : List Value} {h : HP} {Q : Option Value → HP → Prop} {i x : Nat} {v : Int32} (ci k : Nat) (pc' : Nat) (hf : FL (dO d) i ci k) (hd : decode (dB d) pc = .ok (.putfield i, 3)) (hp : pc + 3 = pc') (hx : kd x = ci) (hc : (fc ci)[k]? = some 0) (hfin : (vwCl.map (fun q => (q.2.1 k).2.2.2))[ci]? = some false) (hn : narrow (tyC ci k) (.int v) = .int v ∧ fits (tyC ci k) (.int v) = true) (kk : Wm g d pc' ls st (si h x k v) Q) : Wm g d pc ls (.int v :: .ref x :: st) h Q := by
  subst hp
  refine wm_of (fun p e R s m args below meth c cells slots Qf X H locs lsr hR hL hV K => ?_) kk
  obtain ⟨q, hq, hk, hl⟩ := hf
  have hci : ci < 9 := vwCl_lt hq
  have hx2 := kd_lt hx (by omega)
  have hfin2 : (q.2.1 k).2.2.2 = false := by
    rw [List.getElem?_map, hq] at hfin
    exact Option.some.inj hfin
  have e1 : (Value.int v :: Value.ref x :: st).map (cv g) = .int v :: .ref (gB g + x) :: st.map (cv g) := by
    show _ :: Value.ref (adr g x) :: _ = _
    rw [adr_lt (by omega)]
    rfl
  rw [e1]
  have hlen : k < (objF g h x (fc ci)).length := by
    have := (List.getElem?_eq_some_iff.mp hc).1
    simpa [objF] using this
  refine va_put (D := (gC g, gS g)) (C := q.1) (T := q.2.1) (N := q.2.2) (v := .int v) (ty := tyC ci k) X.1 X.2.1 X.2.2.2.2.1 (cls_ok ci q hq).1 (tyC ci) (cls_ok ci q hq).2.1 (cls_ok ci q hq).2.2 X.2.2.2.1 X.2.2.2.2.2.1.1 hR.1 (wd_D g h) (Rep.S (h := h) hL) x (wd_get hx2 |>.trans (by rw [cellE_obj hx (by omega)])) hq k hk (X.2.2.2.2.1 _ hl) (fun _ h9 => h9) hfin2 ((cls_ok ci q hq).2.1 k hk) hn.1 hn.2 hlen hd (fun H1 locs1 hP1 _ hS1 => ?_)
  rw [wd_si (k := k) (v := v)] at hP1
  · obtain ⟨r1, r2⟩ := hR.after hP1 hS1
    exact K H1 locs1 lsr r1 r2 hV
  · rw [cellE_obj hx (by omega)]
    congr 2
    apply List.ext_getElem?
    intro j
    by_cases hj : j = k
    · subst hj
      rw [List.getElem?_set_self hlen, objF_get hc]
      show some (Value.int (gi (si h x j v) x j)) = _
      rw [gi_si, if_pos ⟨rfl, rfl⟩]
    · rw [List.getElem?_set_ne (fun q => hj q.symm)]
      simp only [objF, List.getElem?_mapIdx]
      cases hcj : (fc ci)[j]? with
      | none => rfl
      | some cj =>
        simp only [Option.map_some]
        congr 1
        match cj with
        | 0 =>
          show Value.int (gi (si h x k v) x j) = Value.int (gi h x j)
          rw [gi_si, if_neg (fun q => hj q.2)]
        | 1 => rfl
        | 2 => rfl
        | n + 3 => rfl
