/-! texts: the JDK's own methods over the sixteen literals -/
theorem str_adr {g : GE} {a : Nat} (ha : 6000 ≤ a ∧ a < 6016) : adr g a = gF g (1000 + (a - 6000)) := by
  unfold adr
  rw [if_neg (by omega), show a - 5000 = 1000 + (a - 6000) by omega]
theorem byt_adr {g : GE} {a : Nat} (ha : 7000 ≤ a ∧ a < 7016) : adr g a = gF g (2000 + (a - 7000)) := by
  unfold adr
  rw [if_neg (by omega), show a - 5000 = 2000 + (a - 7000) by omega]
theorem wm_sval {g : GE} {d : MD} {pc : Nat} {ls : List (Option Value)} {st : List Value} {h : HP} {Q : Option Value → HP → Prop} {i a : Nat} (pc' : Nat) (ha : 6000 ≤ a ∧ a < 6016) (hl : Cond.fieldLink (dO d) i "java/lang/String" "value" "[B" ∈ lwg) (hd : decode (dB d) pc = .ok (.getfield i, 3)) (hp : pc + 3 = pc') (kk : Wm g d pc' ls (.ref (a + 1000) :: st) h Q) : Wm g d pc ls (.ref a :: st) h Q := by
  subst hp
  refine wm_of (fun p e R s m args below meth c cells slots Qf X H locs lsr hR hL hV K => ?_) kk
  have hz := X.2.2.2.2.2.1
  have hS := hR.Fz hL hz
  have hj : a - 6000 < 16 := by omega
  obtain ⟨cf, k, fi, f, cell, h1, h2, h3, h4, h5, h6⟩ := (hz.2.1.2.2.2.2.2.2.2.2.2.1 (a - 6000) hj).2.2.1.kept hS.2.1
  have K1 := K H locs lsr hR hL hV
  have e1 : (Value.ref a :: st).map (cv g) = .ref (gF g (1000 + (a - 6000))) :: st.map (cv g) := by
    show Value.ref (adr g a) :: _ = _
    rw [str_adr ha]
  have e2 : (Value.ref (a + 1000) :: st).map (cv g) = .ref (gF g (2000 + (a - 6000))) :: st.map (cv g) := by
    show Value.ref (adr g (a + 1000)) :: _ = _
    rw [byt_adr (by omega), show a + 1000 - 7000 = a - 6000 by omega]
  rw [e2] at K1
  rw [e1]
  exact W.getf X.1 X.2.1 X.2.2.2.1 (X.2.2.2.2.1 _ hl) h1 h2 h3 h4 h5 rfl rfl hd K1
theorem wm_scod {g : GE} {d : MD} {pc : Nat} {ls : List (Option Value)} {st : List Value} {h : HP} {Q : Option Value → HP → Prop} {i a : Nat} (pc' : Nat) (ha : 6000 ≤ a ∧ a < 6016) (hl : Cond.fieldLink (dO d) i "java/lang/String" "coder" "B" ∈ lwg) (hd : decode (dB d) pc = .ok (.getfield i, 3)) (hp : pc + 3 = pc') (kk : Wm g d pc' ls (.int 0 :: st) h Q) : Wm g d pc ls (.ref a :: st) h Q := by
  subst hp
  refine wm_of (fun p e R s m args below meth c cells slots Qf X H locs lsr hR hL hV K => ?_) kk
  have hz := X.2.2.2.2.2.1
  have hS := hR.Fz hL hz
  have hj : a - 6000 < 16 := by omega
  obtain ⟨cf, k, fi, f, cell, h1, h2, h3, h4, h5, h6⟩ := (hz.2.1.2.2.2.2.2.2.2.2.2.1 (a - 6000) hj).2.1.kept hS.2.1
  have e1 : (Value.ref a :: st).map (cv g) = .ref (gF g (1000 + (a - 6000))) :: st.map (cv g) := by
    show Value.ref (adr g a) :: _ = _
    rw [str_adr ha]
  rw [e1]
  exact W.getf X.1 X.2.1 X.2.2.2.1 (X.2.2.2.2.1 _ hl) h1 h2 h3 h4 h5 rfl rfl hd (K H locs lsr hR hL hV)
theorem wm_blen {g : GE} {d : MD} {pc : Nat} {ls : List (Option Value)} {st : List Value} {h : HP} {Q : Option Value → HP → Prop} {a : Nat} (pc' : Nat) (ha : 7000 ≤ a ∧ a < 7016) (hd : decode (dB d) pc = .ok (.arraylength, 1)) (hp : pc + 1 = pc') (kk : Wm g d pc' ls (.int (nI (leS.getD (a - 7000) 0)) :: st) h Q) : Wm g d pc ls (.ref a :: st) h Q := by
  subst hp
  refine wm_of (fun p e R s m args below meth c cells slots Qf X H locs lsr hR hL hV K => ?_) kk
  have hz := X.2.2.2.2.2.1
  have hS := hR.Fz hL hz
  have hj : a - 7000 < 16 := by omega
  obtain ⟨cell, h1, h2, h3, h4, h5, h6, h7⟩ := (hz.2.1.2.2.2.2.2.2.2.2.2.1 (a - 7000) hj).2.2.2
  have hc : H[gF g (2000 + (a - 7000))]? = some cell := by rw [hS.2.1 _ (Array.getElem?_eq_some_iff.mp h1).1 h7]; exact h1
  have e1 : (Value.ref a :: st).map (cv g) = .ref (gF g (2000 + (a - 7000))) :: st.map (cv g) := by
    show Value.ref (adr g a) :: _ = _
    rw [byt_adr ha]
  rw [e1]
  exact W.alen (n := nI (leS.getD (a - 7000) 0)) X.1 X.2.1 hc h2 h5 rfl rfl hd (K H locs lsr hR hL hV)
theorem wm_bald {g : GE} {d : MD} {pc : Nat} {ls : List (Option Value)} {st : List Value} {h : HP} {Q : Option Value → HP → Prop} {a : Nat} {i : Int32} (pc' : Nat) (ha : 7000 ≤ a ∧ a < 7016) (hd : decode (dB d) pc = .ok (.baload, 1)) (hp : pc + 1 = pc') (hi : vp_in i (leS.getD (a - 7000) 0)) (kk : Wm g d pc' ls (.int ((byS.getD (a - 7000) []).getD (ix i) 0) :: st) h Q) : Wm g d pc ls (.int i :: .ref a :: st) h Q := by
  subst hp
  refine wm_of (fun p e R s m args below meth c cells slots Qf X H locs lsr hR hL hV K => ?_) kk
  have hz := X.2.2.2.2.2.1
  have hS := hR.Fz hL hz
  have hj : a - 7000 < 16 := by omega
  have hlt : i.toNatClampNeg < leS.getD (a - 7000) 0 := vp_in_lt hi
  obtain ⟨cell, h1, h2, h3, h4, h5, h6, h7⟩ := (hz.2.1.2.2.2.2.2.2.2.2.2.1 (a - 7000) hj).2.2.2
  have hc : H[gF g (2000 + (a - 7000))]? = some cell := by rw [hS.2.1 _ (Array.getElem?_eq_some_iff.mp h1).1 h7]; exact h1
  have e1 : (Value.int i :: Value.ref a :: st).map (cv g) = .int i :: .ref (gF g (2000 + (a - 7000))) :: st.map (cv g) := by
    show _ :: Value.ref (adr g a) :: _ = _
    rw [byt_adr ha]
    rfl
  rw [e1]
  exact W.bald X.1 X.2.1 hc h2 h3 (fun q => q.elim (fun q => hi (Or.inl q)) (fun q => by omega)) (h6 _ hlt) rfl rfl hd (K H locs lsr hR hL hV)
theorem wm_cmp {g : GE} {d : MD} {pc : Nat} {ls : List (Option Value)} {st : List Value} {h : HP} {Q : Option Value → HP → Prop} {i : Nat} (pc' : Nat) (hl : Cond.fieldLink (dO d) i "java/lang/String" "COMPACT_STRINGS" "Z" ∈ lwg) (hd : decode (dB d) pc = .ok (.getstatic i, 3)) (hp : pc + 3 = pc') (kk : Wm g d pc' ls (.int 1 :: st) h Q) : Wm g d pc ls st h Q := by
  subst hp
  refine wm_of (fun p e R s m args below meth c cells slots Qf X H locs lsr hR hL hV K => ?_) kk
  have hz := X.2.2.2.2.2.1
  have hS := hR.Fz hL hz
  obtain ⟨cf, kf, fi, f, a, cell, h1, h2, h3, h4, h5, h6, h7, h8⟩ := hz.2.1.2.2.2.2.2.2.2.1
  exact W.gets X.1 X.2.1 X.2.2.2.1 (X.2.2.2.2.1 _ hl) h1 h2 h3 h4 (by rw [hS.2.1 a (Array.getElem?_eq_some_iff.mp h5).1 h8]; exact h5) (fun e => by rw [e] at h6; cases h6) h7 rfl hd (K H locs lsr hR hL hV)
theorem wm_fmt {g : GE} {d : MD} {pc : Nat} {ls : List (Option Value)} {st : List Value} {h : HP} {Q : Option Value → HP → Prop} {i : Nat} (pc' : Nat) (hl : Cond.fieldLink (dO d) i "jdk/internal/util/Preconditions" "SIOOBE_FORMATTER" "Ljava/util/function/BiFunction;" ∈ lwg) (hd : decode (dB d) pc = .ok (.getstatic i, 3)) (hp : pc + 3 = pc') (kk : ∀ v : Value, v = .null ∨ v = .ref 5003 → Wm g d pc' ls (v :: st) h Q) : Wm g d pc ls st h Q := by
  subst hp
  intro p e R s m args below meth c cells slots Qf X RET H locs lsr hR hL hV
  have hz := X.2.2.2.2.2.1
  have hS := hR.Fz hL hz
  rcases hz.2.1.2.2.2.2.2.2.2.2.1 with hq | hq
  · obtain ⟨cf, kf, fi, f, a, cell, h1, h2, h3, h4, h5, h6, h7, h8⟩ := hq
    exact W.gets X.1 X.2.1 X.2.2.2.1 (X.2.2.2.2.1 _ hl) h1 h2 h3 h4 (by rw [hS.2.1 a (Array.getElem?_eq_some_iff.mp h5).1 h8]; exact h5) (fun e => by rw [e] at h6; cases h6) h7 rfl hd (kk .null (Or.inl rfl) p e R s m args below meth c cells slots Qf X RET H locs lsr hR hL hV)
  · obtain ⟨cf, kf, fi, f, a, cell, h1, h2, h3, h4, h5, h6, h7, h8⟩ := hq
    exact W.gets X.1 X.2.1 X.2.2.2.1 (X.2.2.2.2.1 _ hl) h1 h2 h3 h4 (by rw [hS.2.1 a (Array.getElem?_eq_some_iff.mp h5).1 h8]; exact h5) (fun e => by rw [e] at h6; cases h6) h7 rfl hd (kk (.ref 5003) (Or.inr rfl) p e R s m args below meth c cells slots Qf X RET H locs lsr hR hL hV)
theorem wm_i2c {g : GE} {d : MD} {pc : Nat} {ls : List (Option Value)} {st : List Value} {h : HP} {Q : Option Value → HP → Prop} {x : Int32} (pc' : Nat) (hd : decode (dB d) pc = .ok (.i2c, 1)) (hp : pc + 1 = pc') (k : Wm g d pc' ls (.int (x.toUInt32 % 65536).toInt32 :: st) h Q) : Wm g d pc ls (.int x :: st) h Q := by
  subst hp
  exact wm_of (fun p e R s m args below meth c cells slots Qf X H locs lsr hR hL hV K => lv_i2c X.1 X.2.1 hd rfl (K H locs lsr hR hL hV)) k
/-- a text's own method is called -/
theorem wm_callT {g : GE} {d : MD} {pc : Nat} {ls : List (Option Value)} {h : HP} {Q : Option Value → HP → Prop} (d2 : MD) {i b : Nat} (n : Nat) (As rest st : List Value) (Q1 : Int32 → HP → Prop) (pc' : Nat) (hm : MO d2) (hp2 : npar d2 n) (hl : Cond.methodLink (dO d) i (dY d2) ∈ lwg) (hi : Cond.instanceMethod (dY d2) ∈ lwg) (hs : Cond.selects (dO d2) (dY d2) (dY d2) ∈ lwg) (hroom : dF d2 + 1 ≤ dF d ∧ 8 + (dN d2 + 11) + dW d2 ≤ dW d)
    (hd : decode (dB d) pc = .ok (.invokevirtual i, 3)) (hp : pc + 3 = pc') (hst : As.reverse ++ .ref b :: rest = st) (hn : As.length = n) (hrest : (rest.map fun v => v.category).sum ≤ 8) (hb : 6000 ≤ b ∧ b < 6016) (hci : dO d2 = "java/lang/String")
    (he : (lg_sl (.ref b :: As)).length ≤ dN d2) (ls2 : List (Option Value)) (he2 : ∀ (i : Nat) (v : Value), ls2[i]? = some (some v) → (ent (.ref b :: As))[i]? = some (some v)) (k1 : Wm g d2 0 ls2 [] h (qi Q1))
    (k2 : ∀ (v : Int32) (h' : HP), Q1 v h' → RV d2 (some (.int v)) → Wm g d pc' ls (.int v :: rest) h' Q) : Wm g d pc ls st h Q := by
  subst hp
  subst hst
  intro p e R s m args below meth c cells slots Qf X RET H locs lsr hR hL hV
  have hM := met_of hm he he2 k1
  obtain ⟨hx, hb2, hml, hown, hts, hz, hF, hW2, hcl, hsl⟩ := id X
  have hS := hR.Fz hL hz
  have e1 : (Value.ref b :: rest).map (cv g) = .ref (gF g (1000 + (b - 6000))) :: rest.map (cv g) := by
    show Value.ref (adr g b) :: _ = _
    rw [str_adr hb]
  rw [List.map_append, List.map_reverse, e1]
  have hG : ∀ w ∈ wsM d2, w ∈ lwg := fun w hw => by
    rcases List.mem_cons.mp hw with rfl | hw
    · exact hm.2.2.1
    · exact hw
  have cw := cwV (own := dO d) (index := i) (C := dO d2) (y := dY d2) (R := R) (ws := wsM d2) (bytes := dB d2) (maxL := dN d2) (ret := dR d2) (rm := rmM d2) (mc := 0) (ms := 0) n hts (lwg_good (fun w hw => by
    simp only [wsV, List.mem_append, List.mem_cons, List.not_mem_nil, or_false] at hw
    rcases hw with (rfl | rfl | rfl | rfl) | hw
    · exact hl
    · exact hi
    · exact hs
    · rw [hm.2.1]; exact hm.2.2.2.1
    · exact hG w (List.mem_cons.mpr hw))) rfl rfl rfl ⟨hm.2.1.symm, hm.2.2.2.2.1, hm.2.2.2.2.2, hp2⟩ ⟨Nat.le_trans hroom.1 hF, Nat.le_trans hroom.2 hW2⟩
  have hrc : ∃ cell : Cell, H[gF g (1000 + (b - 6000))]? = some cell ∧ cell.vm.isStatics = false ∧ s.vm.findClass (dO d2) = some cell.cls := by
    obtain ⟨cell, h1, h2, h3, -⟩ := (hz.2.1.2.2.2.2.2.2.2.2.2.1 (b - 6000) (by omega)).1.kept hS.2.1
    exact ⟨cell, h1, h2, by rw [hci]; exact h3⟩
  have run := va_runV (l := gL g) (e := e) (below := below) (meth := meth) (locs := locs) (cells := cells) (slots := slots) (b := gF g (1000 + (b - 6000))) (As := As.map (cv g)) (rest := rest.map (cv g)) (g := F0 m pc lsr ((As.map (cv g)).reverse ++ .ref (gF g (1000 + (b - 6000))) :: rest.map (cv g))) (cc := dB d) (nL := dN d) (H := H) ⟨hx, hb2, hml, hown, hts⟩ hM cw ⟨pcM_blind, hrc, fun U hU hW => ⟨by rw [List.map_cons]; show _ = (Value.ref (adr g b) :: _).toArray; rw [str_adr hb], by rw [hU]; exact hR, hz.warm hW⟩⟩ rfl (by rw [List.length_map]; exact hn) hV.1 rfl (rest_ok hrest) hd ⟨by omega, by omega⟩
  exact run_go run hL (fun r h' H1 locs1 q1 q2 q3 q4 => by
    obtain ⟨v, rfl, q1⟩ := q1
    exact k2 v h' q1 q2 p e R s m args below meth c cells slots Qf X RET H1 locs1 lsr q3 q4 hV)
theorem nar_b0 : narrow .byte (.int 0) = .int 0 := by decide +kernel
theorem l_coder (g : GE) (a0 : Nat) (ha : 6000 ≤ a0 ∧ a0 < 6016) (h : HP) (Q : Int32 → HP → Prop) (H : Q 0 h) : Wm g mJ0_coder_7d493 0 [some (.ref a0)] [] h (qi Q) := by
  refine wm_cmp (i := 38) 3 (lwg_4 98 (by decide +kernel) rfl) (by decide +kernel) rfl ?_
  refine wm_if_eq 6 13 (by decide +kernel : decode cJ0_coder_7d493 3 = .ok (.ifCond .eq 10, 3)) (by decide) rfl (fun c => absurd c (by decide +kernel)) (fun _ => ?_)
  refine wm_aload_n 0 7 (by decide +kernel) rfl rfl ?_
  refine wm_scod (i := 15) 10 ha (lwg_7 114 (by decide +kernel) rfl) (by decide +kernel) rfl ?_
  refine wm_goto 14 (by decide +kernel : decode cJ0_coder_7d493 10 = .ok (.goto 4, 3)) (by decide) ?_
  exact wm_iret (by decide +kernel) ⟨.byte, rfl, nar_b0⟩ H
theorem l_isLatin1 (g : GE) (a0 : Nat) (ha : 6000 ≤ a0 ∧ a0 < 6016) (h : HP) (Q : Int32 → HP → Prop) (H : Q 1 h) : Wm g mJ0_isLatin1_aae02 0 [some (.ref a0)] [] h (qi Q) := by
  refine wm_cmp (i := 38) 3 (lwg_4 98 (by decide +kernel) rfl) (by decide +kernel) rfl ?_
  refine wm_if_eq 6 17 (by decide +kernel : decode cJ0_isLatin1_aae02 3 = .ok (.ifCond .eq 14, 3)) (by decide) rfl (fun c => absurd c (by decide +kernel)) (fun _ => ?_)
  refine wm_aload_n 0 7 (by decide +kernel) rfl rfl ?_
  refine wm_scod (i := 15) 10 ha (lwg_7 114 (by decide +kernel) rfl) (by decide +kernel) rfl ?_
  refine wm_if_ne 13 17 (by decide +kernel : decode cJ0_isLatin1_aae02 10 = .ok (.ifCond .ne 7, 3)) (by decide) rfl (fun c => absurd rfl c) (fun _ => ?_)
  refine wm_iconst 1 14 (by decide +kernel : decode cJ0_isLatin1_aae02 13 = .ok (.iconst 1, 1)) rfl (by decide +kernel) ?_
  refine wm_goto 18 (by decide +kernel : decode cJ0_isLatin1_aae02 14 = .ok (.goto 4, 3)) (by decide) ?_
  exact wm_iret (by decide +kernel) ⟨.boolean, rfl, by decide +kernel⟩ H
theorem l_slength (g : GE) (a0 : Nat) (ha : 6000 ≤ a0 ∧ a0 < 6016) (h : HP) (Q : Int32 → HP → Prop) (H : Q (nI (leS.getD (a0 - 6000) 0)) h) : Wm g mJ0_length_8abf5 0 [some (.ref a0)] [] h (qi Q) := by
  refine wm_aload_n 0 1 (by decide +kernel) rfl rfl ?_
  refine wm_sval (i := 9) 4 ha (lwg_7 113 (by decide +kernel) rfl) (by decide +kernel) rfl ?_
  refine wm_blen 5 (by omega) (by decide +kernel) rfl ?_
  rw [show a0 + 1000 - 7000 = a0 - 6000 by omega]
  refine wm_aload_n 0 6 (by decide +kernel) rfl rfl ?_
  refine wm_callT mJ0_coder_7d493 0 [] [_] _ _ 9 mo_J0_coder_7d493 np_J0_coder_7d493 ml_RJ0_335 im_J0_coder_7d493 se_J0_coder_7d493 (by decide +kernel) (by decide +kernel) rfl rfl rfl (Nat.le_of_ble_eq_true rfl) ha rfl (Nat.le_of_ble_eq_true rfl) _ (ent_pad 0 rfl) (l_coder g a0 ha h (fun v h1 => v = 0 ∧ h1 = h) ⟨rfl, rfl⟩) (fun v h1 hq _ => ?_)
  obtain ⟨rfl, rfl⟩ := hq
  refine wm_ishr 10 (by decide +kernel) rfl ?_
  rw [sb_shr0]
  exact wm_iret (by decide +kernel) ⟨.int, rfl, rfl⟩ H
theorem l_pcheck (g : GE) (x0 x1 : Int32) (a2 : Value) (hi : ¬ x0 < 0 ∧ x0 < x1) (h : HP) (Q : Int32 → HP → Prop) (H : Q x0 h) : Wm g mJ3_checkIndex_8e157 0 [some (.int x0), some (.int x1), some a2] [] h (qi Q) := by
  refine wm_iload_n 0 1 (by decide +kernel) rfl rfl ?_
  refine wm_if_lt 4 9 (by decide +kernel : decode cJ3_checkIndex_8e157 1 = .ok (.ifCond .lt 8, 3)) (by decide) rfl (fun c => absurd c hi.1) (fun _ => ?_)
  refine wm_iload_n 0 5 (by decide +kernel) rfl rfl ?_
  refine wm_iload_n 1 6 (by decide +kernel) rfl rfl ?_
  refine wm_icmp_lt 9 16 (by decide +kernel : decode cJ3_checkIndex_8e157 6 = .ok (.if_icmp .lt 10, 3)) (by decide) rfl (fun _ => ?_) (fun c => absurd hi.2 c)
  refine wm_iload_n 0 17 (by decide +kernel) rfl rfl ?_
  exact wm_iret (by decide +kernel) ⟨.int, rfl, rfl⟩ H
theorem l_scheck (g : GE) (x0 x1 : Int32) (hi : ¬ x0 < 0 ∧ x0 < x1) (h : HP) (Q : HP → Prop) (H : Q h) : Wm g mJ0_checkIndex_df160 0 [some (.int x0), some (.int x1)] [] h (qv Q) := by
  refine wm_iload_n 0 1 (by decide +kernel) rfl rfl ?_
  refine wm_iload_n 1 2 (by decide +kernel) rfl rfl ?_
  refine wm_fmt (i := 1053) 5 (lwg_4 114 (by decide +kernel) rfl) (by decide +kernel) rfl (fun v hv => ?_)
  have hc : v.category = 1 := by rcases hv with rfl | rfl <;> rfl
  refine wm_callSi mJ3_checkIndex_8e157 3 [_, _, _] [] _ _ 8 mo_J3_checkIndex_8e157 np_J3_checkIndex_8e157 ml_RJ0_1059 sc_J3_checkIndex_8e157 (by decide +kernel) (by decide +kernel) rfl rfl rfl (Nat.le_of_ble_eq_true rfl) (by rcases hv with rfl | rfl <;> exact Nat.le_of_ble_eq_true rfl) _ (ent_pad 0 (by rcases hv with rfl | rfl <;> rfl)) (l_pcheck g x0 x1 v hi h (fun _ h1 => h1 = h) rfl) (fun r h1 hq _ => ?_)
  subst hq
  refine wm_pop 9 (by decide +kernel) rfl rfl ?_
  exact wm_vret (by decide +kernel) rfl H
theorem byS_ok : ∀ i, i < 16 → ∀ k, k < leS.getD i 0 → (((byS.getD i []).getD k 0 &&& 255).toUInt32 % 65536).toInt32 = (byS.getD i []).getD k 0 ∧ narrow .char (.int ((byS.getD i []).getD k 0)) = .int ((byS.getD i []).getD k 0) := by decide +kernel
theorem leS_lt : ∀ i, i < 16 → leS.getD i 0 < 100 := by decide +kernel
theorem l_lchar (g : GE) (a0 : Nat) (x1 : Int32) (ha : 7000 ≤ a0 ∧ a0 < 7016) (hi : vp_in x1 (leS.getD (a0 - 7000) 0)) (h : HP) (Q : Int32 → HP → Prop) (H : Q ((byS.getD (a0 - 7000) []).getD (ix x1) 0) h) : Wm g mJ1_charAt_3b067 0 [some (.ref a0), some (.int x1)] [] h (qi Q) := by
  refine wm_iload_n 1 1 (by decide +kernel) rfl rfl ?_
  refine wm_aload_n 0 2 (by decide +kernel) rfl rfl ?_
  refine wm_blen 3 ha (by decide +kernel) rfl ?_
  have hl := leS_lt (a0 - 7000) (by omega)
  have hi2 : ¬ x1 < 0 ∧ x1 < nI (leS.getD (a0 - 7000) 0) := by
    obtain ⟨j, hj, rfl⟩ := vp_in_of hi (by omega)
    exact ⟨nI_pos (by omega), nI_lt hj (by omega)⟩
  refine wm_callSv mJ0_checkIndex_df160 2 [_, _] [] _ _ 6 mo_J0_checkIndex_df160 np_J0_checkIndex_df160 ml_RJ1_9 sc_J0_checkIndex_df160 (by decide +kernel) (by decide +kernel) rfl rfl rfl (Nat.le_of_ble_eq_true rfl) (Nat.le_of_ble_eq_true rfl) _ (ent_pad 0 rfl) (l_scheck g x1 _ hi2 h (fun h1 => h1 = h) rfl) (fun h1 hq => ?_)
  subst hq
  refine wm_aload_n 0 7 (by decide +kernel) rfl rfl ?_
  refine wm_iload_n 1 8 (by decide +kernel) rfl rfl ?_
  refine wm_bald 9 ha (by decide +kernel) rfl hi ?_
  refine wm_sipush 255 12 (by decide +kernel : decode cJ1_charAt_3b067 9 = .ok (.sipush 255, 3)) rfl (by decide +kernel) ?_
  refine wm_iand 13 (by decide +kernel) rfl ?_
  refine wm_i2c 14 (by decide +kernel) rfl ?_
  have hk := byS_ok (a0 - 7000) (by omega) (ix x1) (vp_in_lt hi)
  rw [hk.1]
  exact wm_iret (by decide +kernel) ⟨.char, rfl, hk.2⟩ H
theorem l_scharAt (g : GE) (a0 : Nat) (x1 : Int32) (ha : 6000 ≤ a0 ∧ a0 < 6016) (hi : vp_in x1 (leS.getD (a0 - 6000) 0)) (h : HP) (Q : Int32 → HP → Prop) (H : Q ((byS.getD (a0 - 6000) []).getD (ix x1) 0) h) : Wm g mJ0_charAt_5068e 0 [some (.ref a0), some (.int x1)] [] h (qi Q) := by
  refine wm_aload_n 0 1 (by decide +kernel) rfl rfl ?_
  refine wm_callT mJ0_isLatin1_aae02 0 [] [] _ _ 4 mo_J0_isLatin1_aae02 np_J0_isLatin1_aae02 ml_RJ0_492 im_J0_isLatin1_aae02 se_J0_isLatin1_aae02 (by decide +kernel) (by decide +kernel) rfl rfl rfl (Nat.le_of_ble_eq_true rfl) ha rfl (Nat.le_of_ble_eq_true rfl) _ (ent_pad 0 rfl) (l_isLatin1 g a0 ha h (fun v h1 => v = 1 ∧ h1 = h) ⟨rfl, rfl⟩) (fun v h1 hq _ => ?_)
  obtain ⟨rfl, rfl⟩ := hq
  refine wm_if_eq 7 16 (by decide +kernel : decode cJ0_charAt_5068e 4 = .ok (.ifCond .eq 12, 3)) (by decide) rfl (fun c => absurd c (by decide +kernel)) (fun _ => ?_)
  refine wm_aload_n 0 8 (by decide +kernel) rfl rfl ?_
  refine wm_sval (i := 9) 11 ha (lwg_7 113 (by decide +kernel) rfl) (by decide +kernel) rfl ?_
  refine wm_iload_n 1 12 (by decide +kernel) rfl rfl ?_
  have e : a0 + 1000 - 7000 = a0 - 6000 := by omega
  refine wm_callSi mJ1_charAt_3b067 2 [_, _] [] _ _ 15 mo_J1_charAt_3b067 np_J1_charAt_3b067 ml_RJ0_495 sc_J1_charAt_3b067 (by decide +kernel) (by decide +kernel) rfl rfl rfl (Nat.le_of_ble_eq_true rfl) (Nat.le_of_ble_eq_true rfl) _ (ent_pad 0 rfl) (l_lchar g (a0 + 1000) x1 (by omega) (by rw [e]; exact hi) h1 (fun v h2 => v = (byS.getD (a0 - 6000) []).getD (ix x1) 0 ∧ h2 = h1) ⟨by rw [e], rfl⟩) (fun v h2 hq hz => ?_)
  obtain ⟨e1, e2⟩ := hq
  subst e2
  rw [← e1] at H
  obtain ⟨ty, t1, t2⟩ := hz
  cases t1
  exact wm_iret (by decide +kernel) ⟨.char, rfl, t2⟩ H
/-- String.length and String.charAt, called -/
theorem wm_strlen {g : GE} {d : MD} {pc : Nat} {ls : List (Option Value)} {st : List Value} {h : HP} {Q : Option Value → HP → Prop} {i a : Nat} (pc' : Nat) (hl : Cond.methodLink (dO d) i yJ0_length_8abf5 ∈ lwg) (hroom : 5 ≤ dF d ∧ 140 ≤ dW d) (hrest : (st.map fun v => v.category).sum ≤ 8) (hd : decode (dB d) pc = .ok (.invokevirtual i, 3)) (hp : pc + 3 = pc') (ha : 6000 ≤ a ∧ a < 6016) (kk : Wm g d pc' ls (.int (nI (leS.getD (a - 6000) 0)) :: st) h Q) : Wm g d pc ls (.ref a :: st) h Q := by
  have hF : dF mJ0_length_8abf5 = 1 ∧ dW mJ0_length_8abf5 = 20 ∧ dN mJ0_length_8abf5 = 1 := ⟨rfl, rfl, rfl⟩
  refine wm_callT mJ0_length_8abf5 0 [] st _ _ pc' mo_J0_length_8abf5 np_J0_length_8abf5 hl im_J0_length_8abf5 se_J0_length_8abf5 ⟨by omega, by omega⟩ hd hp rfl rfl hrest ha rfl (Nat.le_of_ble_eq_true rfl) _ (ent_pad 0 rfl) (l_slength g a ha h (fun v h1 => v = nI (leS.getD (a - 6000) 0) ∧ h1 = h) ⟨rfl, rfl⟩) (fun v h1 hq _ => ?_)
  obtain ⟨rfl, rfl⟩ := hq
  exact kk
theorem wm_charat {g : GE} {d : MD} {pc : Nat} {ls : List (Option Value)} {st : List Value} {h : HP} {Q : Option Value → HP → Prop} {i a : Nat} {x : Int32} (pc' : Nat) (hl : Cond.methodLink (dO d) i yJ0_charAt_5068e ∈ lwg) (hroom : 5 ≤ dF d ∧ 140 ≤ dW d) (hrest : (st.map fun v => v.category).sum ≤ 8) (hd : decode (dB d) pc = .ok (.invokevirtual i, 3)) (hp : pc + 3 = pc') (ha : 6000 ≤ a ∧ a < 6016) (hi : vp_in x (leS.getD (a - 6000) 0)) (kk : Wm g d pc' ls (.int ((byS.getD (a - 6000) []).getD (ix x) 0) :: st) h Q) : Wm g d pc ls (.int x :: .ref a :: st) h Q := by
  have hF : dF mJ0_charAt_5068e = 3 ∧ dW mJ0_charAt_5068e = 64 ∧ dN mJ0_charAt_5068e = 2 := ⟨rfl, rfl, rfl⟩
  refine wm_callT mJ0_charAt_5068e 1 [.int x] st _ _ pc' mo_J0_charAt_5068e np_J0_charAt_5068e hl im_J0_charAt_5068e se_J0_charAt_5068e ⟨by omega, by omega⟩ hd hp rfl rfl hrest ha rfl (Nat.le_of_ble_eq_true rfl) _ (ent_pad 0 rfl) (l_scharAt g a x ha hi h (fun v h1 => v = (byS.getD (a - 6000) []).getD (ix x) 0 ∧ h1 = h) ⟨rfl, rfl⟩) (fun v h1 hq _ => ?_)
  obtain ⟨e1, e2⟩ := hq
  subst e2
  rw [e1]
  exact kk
