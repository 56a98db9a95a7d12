/-! arrays -/
theorem cellE_i {g : GE} {h : HP} {i : Nat} (hk : kd i = 10) : cellE g h i = .inl (gA g 0, kn i, .inl (gi h i)) := by
  unfold cellE
  rw [hk]
  rfl
theorem cellE_c {g : GE} {h : HP} {i : Nat} (hk : kd i = 11) : cellE g h i = .inl (gA g 1, kn i, .inl (gi h i)) := by
  unfold cellE
  rw [hk]
  rfl
theorem cellE_l {g : GE} {h : HP} {i : Nat} (hk : kd i = 12) : cellE g h i = .inl (gA g 2, kn i, .inr (.inl (gl h i))) := by
  unfold cellE
  rw [hk]
  rfl
theorem cellE_s {g : GE} {h : HP} {i : Nat} (hk : kd i = 13) : cellE g h i = .inl (gA g 3, kn i, .inr (.inr (.inr (.inr (fun j => some (gB g + (i + 2 + j))))))) := by
  unfold cellE
  rw [hk]
  rfl
theorem cellE_n {g : GE} {h : HP} {i : Nat} (hk : kd i = 14) : cellE g h i = .inl (gA g 4, kn i, .inr (.inr (.inr (.inr (fun j => some (gB g + (i + 7 + 2 * j))))))) := by
  unfold cellE
  rw [hk]
  rfl
theorem cellE_h {g : GE} {h : HP} {i : Nat} (hk : kd i = 15) : cellE g h i = .inl (gA g 5, kn i, .inr (.inr (.inr (.inr (fun j => some (gB g + (i + 2 + 2 * j))))))) := by
  unfold cellE
  rw [hk]
  rfl
theorem kn_le : ∀ i, i < 146 → kn i ≤ 1068 := by decide +kernel
theorem ref_map {g : GE} {x : Nat} (st : List Value) (h : x < 5000) : (Value.ref x :: st).map (cv g) = .ref (gB g + x) :: st.map (cv g) := by
  show Value.ref (adr g x) :: _ = _
  rw [adr_lt h]
abbrev ix (i : Int32) : Nat := i.toNatClampNeg
theorem vp_in_lt {i : Int32} {n : Nat} (h : vp_in i n) : ix i < n := Nat.not_le.mp fun q => h (Or.inr q)
theorem wm_iald {g : GE} {d : MD} {pc : Nat} {ls : List (Option Value)} {st : List Value} {h : HP} {Q : Option Value → HP → Prop} {a : Nat} {i : Int32} (n : Nat) (pc' : Nat) (hd : decode (dB d) pc = .ok (.iaload, 1)) (hp : pc + 1 = pc') (ha : kd a = 10) (hn : kn a = n) (hi : vp_in i n) (kk : Wm g d pc' ls (.int (gi h a (ix i)) :: st) h Q) : Wm g d pc ls (.int i :: .ref a :: st) h Q := by
  subst hp
  refine wm_of (fun p e R s m args below meth c cells slots Qf X H locs lsr hR hL hV K => ?_) kk
  have ha2 := kd_lt ha (by omega)
  rw [List.map_cons, ref_map st (by omega)]
  exact va_iald X.1 X.2.1 X.2.2.2.2.2.1.1 hR.1 a 0 ((wd_get ha2).trans (by rw [cellE_i ha, hn])) rfl hi hd (K H locs lsr hR hL hV)
theorem wm_cald {g : GE} {d : MD} {pc : Nat} {ls : List (Option Value)} {st : List Value} {h : HP} {Q : Option Value → HP → Prop} {a : Nat} {i : Int32} (n : Nat) (pc' : Nat) (hd : decode (dB d) pc = .ok (.caload, 1)) (hp : pc + 1 = pc') (ha : kd a = 11) (hn : kn a = n) (hi : vp_in i n) (kk : Wm g d pc' ls (.int (gi h a (ix i)) :: st) h Q) : Wm g d pc ls (.int i :: .ref a :: st) h Q := by
  subst hp
  refine wm_of (fun p e R s m args below meth c cells slots Qf X H locs lsr hR hL hV K => ?_) kk
  have ha2 := kd_lt ha (by omega)
  rw [List.map_cons, ref_map st (by omega)]
  exact va_cald X.1 X.2.1 X.2.2.2.2.2.1.1 hR.1 a 1 ((wd_get ha2).trans (by rw [cellE_c ha, hn])) rfl hi hd (K H locs lsr hR hL hV)
theorem wm_lald {g : GE} {d : MD} {pc : Nat} {ls : List (Option Value)} {st : List Value} {h : HP} {Q : Option Value → HP → Prop} {a : Nat} {i : Int32} (n : Nat) (pc' : Nat) (hd : decode (dB d) pc = .ok (.laload, 1)) (hp : pc + 1 = pc') (ha : kd a = 12) (hn : kn a = n) (hi : vp_in i n) (kk : Wm g d pc' ls (.long (gl h a (ix i)) :: st) h Q) : Wm g d pc ls (.int i :: .ref a :: st) h Q := by
  subst hp
  refine wm_of (fun p e R s m args below meth c cells slots Qf X H locs lsr hR hL hV K => ?_) kk
  have ha2 := kd_lt ha (by omega)
  rw [List.map_cons, ref_map st (by omega)]
  exact va_lald X.1 X.2.1 X.2.2.2.2.2.1.1 hR.1 a 2 ((wd_get ha2).trans (by rw [cellE_l ha, hn])) rfl hi hd (K H locs lsr hR hL hV)
/-- an object out of a row: stations, lines, sheets -/
theorem wm_aald {g : GE} {d : MD} {pc : Nat} {ls : List (Option Value)} {st : List Value} {h : HP} {Q : Option Value → HP → Prop} {a : Nat} {i : Int32} (n : Nat) (y : Nat) (pc' : Nat) (hd : decode (dB d) pc = .ok (.aaload, 1)) (hp : pc + 1 = pc') (ha : (kd a = 13 ∧ a + 2 + ix i = y) ∨ (kd a = 14 ∧ a + 7 + 2 * ix i = y) ∨ (kd a = 15 ∧ a + 2 + 2 * ix i = y)) (hn : kn a = n) (hi : vp_in i n) (kk : Wm g d pc' ls (.ref y :: st) h Q) : Wm g d pc ls (.int i :: .ref a :: st) h Q := by
  subst hp
  refine wm_of (fun p e R s m args below meth c cells slots Qf X H locs lsr hR hL hV K => ?_) kk
  have ha2 : a < 146 := by
    rcases ha with h9 | h9 | h9 <;> exact kd_lt h9.1 (by omega)
  have hkn := kn_le a ha2
  have hil := vp_in_lt hi
  have K1 := K H locs lsr hR hL hV
  rw [ref_map st (by omega)] at K1
  rw [List.map_cons, ref_map st (by omega)]
  rcases ha with ⟨h9, e9⟩ | ⟨h9, e9⟩ | ⟨h9, e9⟩
  · exact va_aldq (C := RX3) X.1 X.2.1 X.2.2.2.2.2.1.1 hR.1 a 3 ((wd_get ha2).trans (by rw [cellE_s h9, hn])) rfl hi hd (by rw [← e9] at K1; exact K1)
  · exact va_aldq (C := RX0) X.1 X.2.1 X.2.2.2.2.2.1.1 hR.1 a 4 ((wd_get ha2).trans (by rw [cellE_n h9, hn])) rfl hi hd (by rw [← e9] at K1; exact K1)
  · exact va_aldq (C := RX2) X.1 X.2.1 X.2.2.2.2.2.1.1 hR.1 a 5 ((wd_get ha2).trans (by rw [cellE_h h9, hn])) rfl hi hd (by rw [← e9] at K1; exact K1)
theorem wm_alen {g : GE} {d : MD} {pc : Nat} {ls : List (Option Value)} {st : List Value} {h : HP} {Q : Option Value → HP → Prop} {a : Nat} (v : Int32) (pc' : Nat) (hd : decode (dB d) pc = .ok (.arraylength, 1)) (hp : pc + 1 = pc') (ha : kd a = 10 ∨ kd a = 12) (hn : Int32.ofNat (kn a) = v) (kk : Wm g d pc' ls (.int v :: st) h Q) : Wm g d pc ls (.ref a :: st) h Q := by
  subst hp
  refine wm_of (fun p e R s m args below meth c cells slots Qf X H locs lsr hR hL hV K => ?_) kk
  have ha2 : a < 146 := by
    rcases ha with h9 | h9 <;> exact kd_lt h9 (by omega)
  rw [ref_map st (by omega)]
  rcases ha with h9 | h9
  · exact va_alen (ty := .int) X.1 X.2.1 X.2.2.2.2.2.1.1 hR.1 a 0 ((wd_get ha2).trans (by rw [cellE_i h9])) rfl hn hd (K H locs lsr hR hL hV)
  · exact va_alen (ty := .long) X.1 X.2.1 X.2.2.2.2.2.1.1 hR.1 a 2 ((wd_get ha2).trans (by rw [cellE_l h9])) rfl hn hd (K H locs lsr hR hL hV)
theorem wm_iast {g : GE} {d : MD} {pc : Nat} {ls : List (Option Value)} {st : List Value} {h : HP} {Q : Option Value → HP → Prop} {a : Nat} {i x : Int32} (n : Nat) (pc' : Nat) (hd : decode (dB d) pc = .ok (.iastore, 1)) (hp : pc + 1 = pc') (ha : kd a = 10) (hn : kn a = n) (hi : vp_in i n) (kk : Wm g d pc' ls st (si h a (ix i) x) Q) : Wm g d pc ls (.int x :: .int i :: .ref a :: st) h Q := by
  subst hp
  refine wm_of (fun p e R s m args below meth c cells slots Qf X H locs lsr hR hL hV K => ?_) kk
  have ha2 := kd_lt ha (by omega)
  rw [List.map_cons, List.map_cons, ref_map st (by omega)]
  refine va_iast X.1 X.2.1 X.2.2.2.2.2.1.1 hR.1 (wd_D g h) (Rep.S (h := h) hL) a 0 ((wd_get ha2).trans (by rw [cellE_i ha, hn])) rfl hi hd (fun H1 locs1 hP1 _ hS1 => ?_)
  rw [wd_si (k := ix i) (v := x)] at hP1
  · obtain ⟨r1, r2⟩ := hR.after hP1 hS1
    exact K H1 locs1 lsr r1 r2 hV
  · rw [cellE_i ha, hn]
    congr 4
    funext j
    show gi (si h a (ix i) x) a j = if j = ix i then x else gi h a j
    rw [gi_si]
    by_cases hj : j = ix i
    · rw [if_pos ⟨rfl, hj⟩, if_pos hj]
    · rw [if_neg (fun q => hj q.2), if_neg hj]
theorem wm_last {g : GE} {d : MD} {pc : Nat} {ls : List (Option Value)} {st : List Value} {h : HP} {Q : Option Value → HP → Prop} {a : Nat} {i : Int32} {x : Int64} (n : Nat) (pc' : Nat) (hd : decode (dB d) pc = .ok (.lastore, 1)) (hp : pc + 1 = pc') (ha : kd a = 12) (hn : kn a = n) (hi : vp_in i n) (kk : Wm g d pc' ls st (sl h a (ix i) x) Q) : Wm g d pc ls (.long x :: .int i :: .ref a :: st) h Q := by
  subst hp
  refine wm_of (fun p e R s m args below meth c cells slots Qf X H locs lsr hR hL hV K => ?_) kk
  have ha2 := kd_lt ha (by omega)
  rw [List.map_cons, List.map_cons, ref_map st (by omega)]
  refine va_last X.1 X.2.1 X.2.2.2.2.2.1.1 hR.1 (wd_D g h) (Rep.S (h := h) hL) a 2 ((wd_get ha2).trans (by rw [cellE_l ha, hn])) rfl hi hd (fun H1 locs1 hP1 _ hS1 => ?_)
  rw [wd_sl (k := ix i) (v := x)] at hP1
  · obtain ⟨r1, r2⟩ := hR.after hP1 hS1
    exact K H1 locs1 lsr r1 r2 hV
  · rw [cellE_l ha, hn]
    congr 5
    funext j
    show gl (sl h a (ix i) x) a j = if j = ix i then x else gl h a j
    rw [gl_sl]
    by_cases hj : j = ix i
    · rw [if_pos ⟨rfl, hj⟩, if_pos hj]
    · rw [if_neg (fun q => hj q.2), if_neg hj]
theorem kd_one : ∀ i, i < 146 → (kd i = 1 → i = 88) ∧ (kd i = 4 → i = 99) := by decide +kernel
/-- the network, or the stream, looks at another world -/
theorem wm_putw {g : GE} {d : MD} {pc : Nat} {ls : List (Option Value)} {st : List Value} {h : HP} {Q : Option Value → HP → Prop} {i x w : Nat} (ci j : Nat) (pc' : Nat) (hf : FL (dO d) i ci 0) (hd : decode (dB d) pc = .ok (.putfield i, 3)) (hp : pc + 3 = pc') (hx : kd x = ci) (hcj : (ci = 1 ∧ j = 0) ∨ (ci = 4 ∧ j = 1)) (hw : kd w = 6) (kk : Wm g d pc' ls st (sw h j w) Q) : Wm g d pc ls (.ref w :: .ref x :: st) h Q := by
  subst hp
  refine wm_of (fun p e R s m args below meth c cells slots Qf X H locs lsr hR hL hV K => ?_) kk
  obtain ⟨q, hq, hk, hl⟩ := hf
  have hci : ci < 9 := vwCl_lt hq
  have hx2 := kd_lt hx (by omega)
  have hw2 := kd_lt hw (by omega)
  have hw0 : w ≠ 0 := by
    intro z
    rw [z] at hw
    exact absurd hw (by decide +kernel)
  have hfin2 : (q.2.1 0).2.2.2 = false := by
    rcases hcj with ⟨rfl, rfl⟩ | ⟨rfl, rfl⟩ <;> (cases hq; rfl)
  have hty : tyC ci 0 = .object "GoodsUnderWay$World" := by
    rcases hcj with ⟨rfl, rfl⟩ | ⟨rfl, rfl⟩ <;> rfl
  have hc : (fc ci)[0]? = some (j + 1) := by
    rcases hcj with ⟨rfl, rfl⟩ | ⟨rfl, rfl⟩ <;> rfl
  rw [List.map_cons, ref_map st (by omega)]
  have e2 : cv g (.ref w) = .ref (gB g + w) := by
    show Value.ref (adr g w) = _
    rw [adr_lt (by omega)]
  rw [e2]
  have hlen : 0 < (objF g h x (fc ci)).length := by
    have := (List.getElem?_eq_some_iff.mp hc).1
    simpa [objF] using this
  refine va_put (D := (gC g, gS g)) (C := q.1) (T := q.2.1) (N := q.2.2) (v := .ref (gB g + w)) (ty := tyC ci 0) X.1 X.2.1 X.2.2.2.2.1 (cls_ok ci q hq).1 (tyC ci) (cls_ok ci q hq).2.1 (cls_ok ci q hq).2.2 X.2.2.2.1 X.2.2.2.2.2.1.1 hR.1 (wd_D g h) (Rep.S (h := h) hL) x (wd_get hx2 |>.trans (by rw [cellE_obj hx (by omega)])) hq 0 hk (X.2.2.2.2.1 _ hl) (fun _ h9 => h9) hfin2 ((cls_ok ci q hq).2.1 0 hk) (by rw [hty]; rfl) (by rw [hty]; rfl) hlen hd (fun H1 locs1 hP1 _ hS1 => ?_)
  have hset : (wd g h).set x (gB g + x, .inr (ci, (objF g h x (fc ci)).set 0 (.ref (gB g + w)))) = wd g (sw h j w) := by
    apply wd_set
    · rw [cellE_obj hx (by omega)]
      congr 2
      apply List.ext_getElem?
      intro k
      by_cases hj : k = 0
      · subst hj
        rw [List.getElem?_set_self hlen, objF_get hc]
        rcases hcj with ⟨rfl, rfl⟩ | ⟨rfl, rfl⟩
        · show some (if gw (sw h 0 w) 0 = 0 then _ else Value.ref (gB g + gw (sw h 0 w) 0)) = _
          rw [gw_sw, if_pos rfl, if_neg hw0]
        · show some (if gw (sw h 1 w) 1 = 0 then _ else Value.ref (gB g + gw (sw h 1 w) 1)) = _
          rw [gw_sw, if_pos rfl, if_neg hw0]
      · rw [List.getElem?_set_ne (fun q => hj q.symm)]
        simp only [objF, List.getElem?_mapIdx]
        cases hck : (fc ci)[k]? with
        | none => rfl
        | some ck =>
          simp only [Option.map_some]
          congr 1
          have hno : ck ≠ 1 ∧ ck ≠ 2 := by
            have : ∀ m, m < 40 → m ≠ 0 → (fc 1)[m]? ≠ some 1 ∧ (fc 1)[m]? ≠ some 2 ∧ (fc 4)[m]? ≠ some 1 ∧ (fc 4)[m]? ≠ some 2 := by decide +kernel
            have h40 : k < 40 := by
              have := (List.getElem?_eq_some_iff.mp hck).1
              have h41 : ∀ n, n < 10 → (fc n).length ≤ 40 := by decide +kernel
              have := h41 ci (by omega)
              omega
            have := this k h40 hj
            rcases hcj with ⟨rfl, rfl⟩ | ⟨rfl, rfl⟩
            · exact ⟨fun z => this.1 (by rw [hck, z]), fun z => this.2.1 (by rw [hck, z])⟩
            · exact ⟨fun z => this.2.2.1 (by rw [hck, z]), fun z => this.2.2.2 (by rw [hck, z])⟩
          match ck, hno with
          | 0, _ => rfl
          | 1, hno => exact absurd rfl hno.1
          | 2, hno => exact absurd rfl hno.2
          | n + 3, _ => rfl
    · intro k hk2 hne
      refine cellE_congr (fun _ => rfl) (fun _ => rfl) (fun hz => ?_) (fun hz => ?_)
      · rw [gw_sw]
        rcases hcj with ⟨rfl, rfl⟩ | ⟨rfl, rfl⟩
        · exact absurd (((kd_one k hk2).1 hz).trans ((kd_one x hx2).1 hx).symm) hne
        · rw [if_neg (by decide)]
      · rw [gw_sw]
        rcases hcj with ⟨rfl, rfl⟩ | ⟨rfl, rfl⟩
        · rw [if_neg (by decide)]
        · exact absurd (((kd_one k hk2).2 hz).trans ((kd_one x hx2).2 hx).symm) hne
  rw [hset] at hP1
  obtain ⟨r1, r2⟩ := hR.after hP1 hS1
  exact K H1 locs1 lsr r1 r2 hV
/-- frozen rows -/
def fzN (a : Nat) : Nat := if a = 5001 then 6 else 4
def fzT (a j : Nat) : Int32 := if a = 5001 then luT j else suT j
theorem Rep.Fz {g : GE} {h : HP} {H : Heap} {locs : List Loc} {s : State} (hR : Rep g h H) (hL : LO g locs) (hz : FZ g s) : va_S (frA g) (gH g) H locs := ⟨by rw [hz.2.1.2.2.1]; exact hR.2.1, fun q _ hq => hR.2.2 q (Nat.not_le.mp hq), hL⟩
theorem wm_fald {g : GE} {d : MD} {pc : Nat} {ls : List (Option Value)} {st : List Value} {h : HP} {Q : Option Value → HP → Prop} {a : Nat} {i : Int32} (pc' : Nat) (hd : decode (dB d) pc = .ok (.iaload, 1)) (hp : pc + 1 = pc') (ha : a = 5001 ∨ a = 5002) (hi : vp_in i (fzN a)) (kk : Wm g d pc' ls (.int (fzT a (ix i)) :: st) h Q) : Wm g d pc ls (.int i :: .ref a :: st) h Q := by
  subst hp
  refine wm_of (fun p e R s m args below meth c cells slots Qf X H locs lsr hR hL hV K => ?_) kk
  have hz := X.2.2.2.2.2.1
  have hS := hR.Fz hL hz
  have hlt := vp_in_lt hi
  rcases ha with rfl | rfl
  · obtain ⟨cell, h1, h2, h3, h4, h5, h6, h7⟩ := hz.2.1.2.2.2.1
    have hc : H[gF g 1]? = some cell := by rw [hS.2.1 _ (Array.getElem?_eq_some_iff.mp h1).1 h7]; exact h1
    have hl6 : i.toNatClampNeg < 6 := hlt
    exact W.iald (v := .int (luT (ix i))) X.1 X.2.1 hc h2 h3 (fun q => q.elim (fun q => hi (Or.inl q)) (fun q => by omega)) (h6 _ hl6) rfl rfl hd (K H locs lsr hR hL hV)
  · obtain ⟨cell, h1, h2, h3, h4, h5, h6, h7⟩ := hz.2.1.2.2.2.2.1
    have hc : H[gF g 2]? = some cell := by rw [hS.2.1 _ (Array.getElem?_eq_some_iff.mp h1).1 h7]; exact h1
    have hl6 : i.toNatClampNeg < 4 := hlt
    exact W.iald (v := .int (suT (ix i))) X.1 X.2.1 hc h2 h3 (fun q => q.elim (fun q => hi (Or.inl q)) (fun q => by omega)) (h6 _ hl6) rfl rfl hd (K H locs lsr hR hL hV)
theorem wm_flen {g : GE} {d : MD} {pc : Nat} {ls : List (Option Value)} {st : List Value} {h : HP} {Q : Option Value → HP → Prop} {a : Nat} (pc' : Nat) (hd : decode (dB d) pc = .ok (.arraylength, 1)) (hp : pc + 1 = pc') (ha : a = 5001 ∨ a = 5002) (kk : Wm g d pc' ls (.int (Int32.ofNat (fzN a)) :: st) h Q) : Wm g d pc ls (.ref a :: st) h Q := by
  subst hp
  refine wm_of (fun p e R s m args below meth c cells slots Qf X H locs lsr hR hL hV K => ?_) kk
  have hz := X.2.2.2.2.2.1
  have hS := hR.Fz hL hz
  rcases ha with rfl | rfl
  · obtain ⟨cell, h1, h2, h3, h4, h5, h6, h7⟩ := hz.2.1.2.2.2.1
    have hc : H[gF g 1]? = some cell := by rw [hS.2.1 _ (Array.getElem?_eq_some_iff.mp h1).1 h7]; exact h1
    exact W.alen (n := Int32.ofNat 6) X.1 X.2.1 hc h2 h5 rfl rfl hd (K H locs lsr hR hL hV)
  · obtain ⟨cell, h1, h2, h3, h4, h5, h6, h7⟩ := hz.2.1.2.2.2.2.1
    have hc : H[gF g 2]? = some cell := by rw [hS.2.1 _ (Array.getElem?_eq_some_iff.mp h1).1 h7]; exact h1
    exact W.alen (n := Int32.ofNat 4) X.1 X.2.1 hc h2 h5 rfl rfl hd (K H locs lsr hR hL hV)
/-- a frozen row's reference -/
theorem wm_gets {g : GE} {d : MD} {pc : Nat} {ls : List (Option Value)} {st : List Value} {h : HP} {Q : Option Value → HP → Prop} {i : Nat} (a : Nat) (pc' : Nat) (hl : (a = 5001 ∧ Cond.fieldLink (dO d) i RX7 "LINE_UNDER" "[I" ∈ lwg) ∨ (a = 5002 ∧ Cond.fieldLink (dO d) i RX7 "STATION_UNDER" "[I" ∈ lwg)) (hd : decode (dB d) pc = .ok (.getstatic i, 3)) (hp : pc + 3 = pc') (kk : Wm g d pc' ls (.ref a :: st) h Q) : Wm g d pc ls st h Q := by
  subst hp
  refine wm_of (fun p e R s m args below meth c cells slots Qf X H locs lsr hR hL hV K => ?_) kk
  have hz := X.2.2.2.2.2.1
  have hS := hR.Fz hL hz
  rcases hl with ⟨rfl, hl⟩ | ⟨rfl, hl⟩
  · obtain ⟨cf, kf, fi, f, a, cell, h1, h2, h3, h4, h5, h6, h7, h8⟩ := hz.2.1.2.2.2.2.2.1
    exact W.gets X.1 X.2.1 X.2.2.2.1 (X.2.2.2.2.1 _ hl) h1 h2 h3 h4 (by rw [hS.2.1 a (Array.getElem?_eq_some_iff.mp h5).1 h8]; exact h5) (fun e => by rw [e] at h6; cases h6) h7 rfl hd (K H locs lsr hR hL hV)
  · obtain ⟨cf, kf, fi, f, a, cell, h1, h2, h3, h4, h5, h6, h7, h8⟩ := hz.2.1.2.2.2.2.2.2.1
    exact W.gets X.1 X.2.1 X.2.2.2.1 (X.2.2.2.2.1 _ hl) h1 h2 h3 h4 (by rw [hS.2.1 a (Array.getElem?_eq_some_iff.mp h5).1 h8]; exact h5) (fun e => by rw [e] at h6; cases h6) h7 rfl hd (K H locs lsr hR hL hV)
/-- the script -/
theorem wm_sald {g : GE} {d : MD} {pc : Nat} {ls : List (Option Value)} {st : List Value} {h : HP} {Q : Option Value → HP → Prop} {i : Int32} (pc' : Nat) (hd : decode (dB d) pc = .ok (.iaload, 1)) (hp : pc + 1 = pc') (hi : vp_in i (gX g).1) (kk : Wm g d pc' ls (.int ((gX g).2 (ix i)) :: st) h Q) : Wm g d pc ls (.int i :: .ref 5000 :: st) h Q := by
  subst hp
  refine wm_of (fun p e R s m args below meth c cells slots Qf X H locs lsr hR hL hV K => ?_) kk
  have hz := X.2.2.2.2.2.1
  exact va_sld (H0 := gH g) (A := frA g) X.1 X.2.1 hz.2.1.1 (by rw [hz.2.1.2.2.1]; exact hz.2.1.2.1) (Nat.not_le.mpr hz.2.1.2.1) (hR.Fz hL hz) hi hd (K H locs lsr hR hL hV)
theorem wm_slen {g : GE} {d : MD} {pc : Nat} {ls : List (Option Value)} {st : List Value} {h : HP} {Q : Option Value → HP → Prop} (pc' : Nat) (hd : decode (dB d) pc = .ok (.arraylength, 1)) (hp : pc + 1 = pc') (kk : Wm g d pc' ls (.int (Int32.ofNat (gX g).1) :: st) h Q) : Wm g d pc ls (.ref 5000 :: st) h Q := by
  subst hp
  refine wm_of (fun p e R s m args below meth c cells slots Qf X H locs lsr hR hL hV K => ?_) kk
  have hz := X.2.2.2.2.2.1
  exact va_slen (H0 := gH g) (A := frA g) X.1 X.2.1 hz.2.1.1 (by rw [hz.2.1.2.2.1]; exact hz.2.1.2.1) (Nat.not_le.mpr hz.2.1.2.1) (hR.Fz hL hz) hd (K H locs lsr hR hL hV)
/-- a text's reference -/
theorem wm_ldcs {g : GE} {d : MD} {pc : Nat} {ls : List (Option Value)} {st : List Value} {h : HP} {Q : Option Value → HP → Prop} {i : Nat} (j : Nat) (pc' : Nat) (ho : dO d = RX5) (hj : j < 16) (hi : (nmS.getD j (0, "")).1 = i) (hd : decode (dB d) pc = .ok (.ldc i, 2)) (hp : pc + 2 = pc') (kk : Wm g d pc' ls (.ref (6000 + j) :: st) h Q) : Wm g d pc ls st h Q := by
  subst hp
  refine wm_of (fun p e R s m args below meth c cells slots Qf X H locs lsr hR hL hV K => ?_) kk
  have hz := X.2.2.2.2.2.1.2.2.1 j hj
  rw [hi] at hz
  have K1 := K H locs lsr hR hL hV
  have e1 : (Value.ref (6000 + j) :: st).map (cv g) = .ref (gF g (1000 + j)) :: st.map (cv g) := by
    show Value.ref (adr g (6000 + j)) :: _ = _
    unfold adr
    rw [if_neg (by omega), show 6000 + j - 5000 = 1000 + j by omega]
  rw [e1] at K1
  exact va_ldcS X.1 X.2.1 (by rw [← ho]; exact X.2.2.2.1) hz hd K1
