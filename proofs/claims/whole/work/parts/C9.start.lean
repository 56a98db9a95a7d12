/-! what stands at the law's entry -/
theorem lwt_1 {w : Cond} (i : Nat) (h : tables_1_1[i]? = some w) : w ∈ lw_tbl := List.mem_append_right _ (List.mem_append_left _ (List.mem_of_getElem? h))
theorem lwt_2 {w : Cond} (i : Nat) (h : tables_1_2[i]? = some w) : w ∈ lw_tbl := List.mem_append_right _ (List.mem_append_right _ (List.mem_append_left _ (List.mem_of_getElem? h)))
theorem lwt_4 {w : Cond} (i : Nat) (h : tables_1_4[i]? = some w) : w ∈ lw_tbl := List.mem_append_right _ (List.mem_append_right _ (List.mem_append_right _ (List.mem_append_right _ (List.mem_append_left _ (List.mem_of_getElem? h)))))
def ixS : List Nat := [85, 138, 139, 140, 145, 146, 147, 148, 149, 150, 155, 173, 180, 181, 182, 183]
theorem sr_ok : ∀ i, i < 16 → tables_1_4[ixS.getD i 0]? = some (Cond.stringRef RX5 (nmS.getD i (0, "")).1 (nmS.getD i (0, "")).2) := by decide +kernel
theorem le_ok : ∀ i, i < 16 → leS.getD i 0 < 2 ^ 31 := by decide +kernel
theorem st_ex : ∀ i, i < 16 → Cond.exactly (tmS i) "java/lang/String" ∈ fl1 := by decide +kernel
theorem st_co : ∀ i, i < 16 → Cond.eq (.field (tmS i) "java/lang/String" "coder" "B") (.int 0) ∈ fl1 := by decide +kernel
theorem st_ar : ∀ i, i < 16 → Cond.arrayOf (.field (tmS i) "java/lang/String" "value" "[B") .byte ∈ fl1 := by decide +kernel
theorem st_le : ∀ i, i < 16 → Cond.eq (.length (.field (tmS i) "java/lang/String" "value" "[B")) (.int (Int32.ofNat (leS.getD i 0))) ∈ fl1 := by decide +kernel
theorem st_el : ∀ i, i < 16 → ∀ j, j < leS.getD i 0 → Cond.eq (.elem (.field (tmS i) "java/lang/String" "value" "[B") (.int (Int32.ofNat j))) (.int ((byS.getD i []).getD j 0)) ∈ fl1 := by decide +kernel
theorem lu_el : ∀ j, j < 6 → Cond.eq (.elem (.static RX7 "LINE_UNDER" "[I") (.int (Int32.ofNat j))) (.int (luT j)) ∈ fl1 := by decide +kernel
theorem su_el : ∀ j, j < 4 → Cond.eq (.elem (.static RX7 "STATION_UNDER" "[I") (.int (Int32.ofNat j))) (.int (suT j)) ∈ fl1 := by decide +kernel
theorem lu_le : Cond.eq (.length (.static RX7 "LINE_UNDER" "[I")) (.int (Int32.ofNat 6)) ∈ fl1 := by decide +kernel
theorem su_le : Cond.eq (.length (.static RX7 "STATION_UNDER" "[I")) (.int (Int32.ofNat 4)) ∈ fl1 := by decide +kernel
theorem lu_ar : Cond.arrayOf (.static RX7 "LINE_UNDER" "[I") .int ∈ fl1 := by decide +kernel
theorem su_ar : Cond.arrayOf (.static RX7 "STATION_UNDER" "[I") .int ∈ fl1 := by decide +kernel
theorem cs_eq : Cond.eq (.static "java/lang/String" "COMPACT_STRINGS" "Z") (.int 1) ∈ fl1 := by decide +kernel
theorem si_rf : Cond.isRef (.static "jdk/internal/util/Preconditions" "SIOOBE_FORMATTER" "Ljava/util/function/BiFunction;") ∈ fl1 := by decide +kernel
/-- an array class of numbers -/
theorem arr_of {args : Array Value} {s : State} {ty : FieldType} (h : (Cond.arrayClass ty).before args s = true) : ∃ cA : ClassId, ArrOfT s cA ty ∧ s.vm.findClass ("[" ++ ty.toString) = some cA := by
  obtain ⟨cA, kA, comp, h1, h2, h3⟩ := Cond.arrayClass_spec h
  exact ⟨cA, fun n z => ⟨fun k h => (by cases h), kA, h2, comp, h3⟩, h1⟩
theorem arr_ob {args : Array Value} {s : State} {C : String} (h : (Cond.arrayOver (.object C)).before args s = true) : ∃ cA : ClassId, ArrOfT s cA (.object C) ∧ va_RA s cA (.object C) := by
  obtain ⟨comp, cA, kA, h1, -, h3, h4, h5⟩ := Cond.arrayOver_spec h
  exact ⟨cA, fun n z => ⟨fun k h => (by cases h), kA, h3, comp, h4⟩, kA, comp, h3, h4, h1, h5⟩
theorem start_g {s : State} {b L : Nat} {xs : Nat → Int32} (l : Launch) (hts : ∀ w ∈ lw_tbl, w.before #[Value.ref b] s = true) (hgv : (Jvm.Cond.and given_1 narrow_1).before #[Value.ref b] s = true) (hX : va_X b L xs s s.heap) (hbl : b < s.heap.size) : ∃ g : GE, gB g = s.heap.size ∧ gH g = s.heap ∧ gF g 0 = b ∧ gX g = (L, xs) ∧ gL g = l ∧ FZc g s := by
  have hl : ∀ w ∈ lwg, w.before #[Value.ref b] s = true := fun w hw => hts w (List.mem_filter.mp hw).1
  have hs := flat_of_before _ hgv
  have hA : ∀ a : Nat, a < s.heap.size → ¬ (fun q : Nat => s.heap.size ≤ q) a := fun a h1 h2 => absurd h1 (Nat.not_lt.mpr h2)
  obtain ⟨c0, i0, k0⟩ := u_known (C := RX0) (T := TX0) (N := 10) (n := 10) hl in_X0 (hl _ ib_X0)
  obtain ⟨c1, i1, k1⟩ := u_known (C := RX1) (T := TX1) (N := 17) (n := 17) hl in_X1 (hl _ ib_X1)
  obtain ⟨c2, i2, k2⟩ := u_known (C := RX2) (T := TX2) (N := 3) (n := 3) hl in_X2 (hl _ ib_X2)
  obtain ⟨c3, i3, k3⟩ := u_known (C := RX3) (T := TX3) (N := 3) (n := 3) hl in_X3 (hl _ ib_X3)
  obtain ⟨c4, i4, k4⟩ := u_known (C := RX4) (T := TX4) (N := 7) (n := 7) hl in_X4 (hl _ ib_X4)
  obtain ⟨c5, i5, k5⟩ := u_known (C := RX5) (T := TX5) (N := 7) (n := 7) hl in_X5 (hl _ ib_X5)
  obtain ⟨c6, i6, k6⟩ := u_known (C := RX6) (T := TX6) (N := 6) (n := 6) hl in_X6 (hl _ ib_X6)
  obtain ⟨c7, i7, k7⟩ := u_known (C := RX7) (T := TX7) (N := 9) (n := 9) hl in_X7 (hl _ ib_X7)
  obtain ⟨c8, i8, k8⟩ := u_known (C := RX8) (T := TX8) (N := 40) (n := 40) hl in_X8 (hl _ ib_X8)
  obtain ⟨a0, m0, n0⟩ := arr_of (hl _ ac_int)
  obtain ⟨a1, m1, n1⟩ := arr_of (hl _ ac_char)
  obtain ⟨a2, m2, n2⟩ := arr_of (hl _ ac_long)
  have o3 : (Cond.arrayOver (.object RX3)).before #[Value.ref b] s = true := hts _ (lwt_1 32 (by decide +kernel))
  have o4 : (Cond.arrayOver (.object RX0)).before #[Value.ref b] s = true := hts _ (lwt_1 34 (by decide +kernel))
  have o5 : (Cond.arrayOver (.object RX2)).before #[Value.ref b] s = true := hts _ (lwt_2 35 (by decide +kernel))
  obtain ⟨a3, m3, n3⟩ := arr_ob o3
  obtain ⟨a4, m4, n4⟩ := arr_ob o4
  obtain ⟨a5, m5, n5⟩ := arr_ob o5
  obtain ⟨t1, ht1, hT1⟩ := va_Tof (tm := .static RX7 "LINE_UNDER" "[I") (N := 6) (f := fun j => .int (luT j)) (A := fun q : Nat => s.heap.size ≤ q) (by decide) (hs _ lu_ar) (va_eqt (hs _ lu_le)) (fun j hj => va_eqt (hs _ (lu_el j hj))) hA
  obtain ⟨t2, ht2, hT2⟩ := va_Tof (tm := .static RX7 "STATION_UNDER" "[I") (N := 4) (f := fun j => .int (suT j)) (A := fun q : Nat => s.heap.size ≤ q) (by decide) (hs _ su_ar) (va_eqt (hs _ su_le)) (fun j hj => va_eqt (hs _ (su_el j hj))) hA
  have hi7 : (Cond.initialized RX7).before #[Value.ref b] s = true := hl _ iz_X7
  have hZ1 := va_Zref (A := fun q : Nat => s.heap.size ≤ q) (hts _ (lwt_2 197 (by decide +kernel)) : (Cond.laysStatic RX7 "LINE_UNDER" "[I").before #[Value.ref b] s = true) hi7 ht1 hA
  have hZ2 := va_Zref (A := fun q : Nat => s.heap.size ≤ q) (hts _ (lwt_2 207 (by decide +kernel)) : (Cond.laysStatic RX7 "STATION_UNDER" "[I").before #[Value.ref b] s = true) hi7 ht2 hA
  have hZ3 := va_Zof (A := fun q : Nat => s.heap.size ≤ q) (hts _ (lwt_4 99 (by decide +kernel)) : (Cond.laysStatic "java/lang/String" "COMPACT_STRINGS" "Z").before #[Value.ref b] s = true) (hts _ (lwt_1 13 (by decide +kernel))) (va_eqi (hs _ cs_eq)) hA
  have hZ4 := va_Zqof (A := fun q : Nat => s.heap.size ≤ q) (hts _ (lwt_4 115 (by decide +kernel)) : (Cond.laysStatic "jdk/internal/util/Preconditions" "SIOOBE_FORMATTER" "Ljava/util/function/BiFunction;").before #[Value.ref b] s = true) (hts _ (lwt_1 15 (by decide +kernel))) (hs _ si_rf) hA
  obtain ⟨t3, hZ4'⟩ : ∃ t3 : Nat, va_Z "jdk/internal/util/Preconditions" "SIOOBE_FORMATTER" "Ljava/util/function/BiFunction;" .null (fun q : Nat => s.heap.size ≤ q) s s.heap ∨ va_Z "jdk/internal/util/Preconditions" "SIOOBE_FORMATTER" "Ljava/util/function/BiFunction;" (.ref t3) (fun q : Nat => s.heap.size ≤ q) s s.heap := by
    rcases hZ4 with z | ⟨t, z⟩
    · exact ⟨0, Or.inl z⟩
    · exact ⟨t, Or.inr z⟩
  obtain ⟨adK, adV, hSS, hSe⟩ := vk_Sof (args := #[Value.ref b]) (s := s) (N := 16) (tm := tmS) (len := leS) (byt := byS) (A := fun q : Nat => s.heap.size ≤ q) le_ok (fun i hi => hs _ (st_ex i hi)) (fun i hi => hs _ (st_co i hi)) (fun i hi => hs _ (st_ar i hi)) (fun i hi => hs _ (st_le i hi)) (fun i hi j hj => hs _ (st_el i hi j hj)) (fun i j hi hj hn => (st_ne i hi j hj hn).imp (fun z => hs _ z) (fun z => hs _ z)) hA
  let gf : Nat → Nat := fun k => if k = 0 then b else if k = 1 then t1 else if k = 2 then t2 else if k = 3 then t3 else if k < 2000 then adK (k - 1000) else adV (k - 2000)
  let gc : Nat → ClassId := fun k => [c0, c1, c2, c3, c4, c5, c6, c7, c8].getD k c0
  let gs : Nat → Nat → Nat := fun k => [i0, i1, i2, i3, i4, i5, i6, i7, i8].getD k i0
  let ga : Nat → ClassId := fun k => [a0, a1, a2, a3, a4, a5].getD k a0
  have eK : ∀ i, i < 16 → gf (1000 + i) = adK i := by
    intro i hi
    show (if 1000 + i = 0 then b else if 1000 + i = 1 then t1 else if 1000 + i = 2 then t2 else if 1000 + i = 3 then t3 else if 1000 + i < 2000 then adK (1000 + i - 1000) else adV (1000 + i - 2000)) = adK i
    rw [if_neg (by omega), if_neg (by omega), if_neg (by omega), if_neg (by omega), if_pos (by omega), Nat.add_sub_cancel_left]
  have eV : ∀ i, i < 16 → gf (2000 + i) = adV i := by
    intro i hi
    show (if 2000 + i = 0 then b else if 2000 + i = 1 then t1 else if 2000 + i = 2 then t2 else if 2000 + i = 3 then t3 else if 2000 + i < 2000 then adK (2000 + i - 1000) else adV (2000 + i - 2000)) = adV i
    rw [if_neg (by omega), if_neg (by omega), if_neg (by omega), if_neg (by omega), if_neg (by omega), Nat.add_sub_cancel_left]
  refine ⟨(s.heap.size, s.heap, gc, gs, ga, gf, (L, xs), l), rfl, rfl, rfl, rfl, rfl, ⟨⟨?_, ?_⟩, ⟨?_, ?_, ?_, ?_, ?_, ?_, ?_, ?_, ?_, ?_⟩, ?_, ?_⟩, va_AO.of o3, va_AO.of o4, va_AO.of o5⟩
  · intro k q hq
    match k, hq with
    | 0, hq => cases hq; exact k0
    | 1, hq => cases hq; exact k1
    | 2, hq => cases hq; exact k2
    | 3, hq => cases hq; exact k3
    | 4, hq => cases hq; exact k4
    | 5, hq => cases hq; exact k5
    | 6, hq => cases hq; exact k6
    | 7, hq => cases hq; exact k7
    | 8, hq => cases hq; exact k8
    | n + 9, hq => cases hq
  · intro k q hq
    match k, hq with
    | 0, hq => cases hq; exact ⟨m0, n0⟩
    | 1, hq => cases hq; exact ⟨m1, n1⟩
    | 2, hq => cases hq; exact ⟨m2, n2⟩
    | 3, hq => cases hq; exact ⟨m3, n3⟩
    | 4, hq => cases hq; exact ⟨m4, n4⟩
    | 5, hq => cases hq; exact ⟨m5, n5⟩
    | n + 6, hq => cases hq
  · exact hX
  · exact hbl
  · rfl
  · exact hT1
  · exact hT2
  · exact hZ1
  · exact hZ2
  · exact hZ3
  · exact hZ4'
  · refine ⟨fun i hi => ?_, fun i j hi hj e => hSS.2 i j hi hj ?_⟩
    · have := hSS.1 i hi
      show va_O "java/lang/String" (gf (1000 + i)) _ s s.heap ∧ va_OF "java/lang/String" "coder" "B" (.int 0) (gf (1000 + i)) _ s s.heap ∧ va_OF "java/lang/String" "value" "[B" (.ref (gf (2000 + i))) (gf (1000 + i)) _ s s.heap ∧ va_T .byte (gf (2000 + i)) (leS.getD i 0) (fun j => .int ((byS.getD i []).getD j 0)) _ s s.heap
      rw [eK i hi, eV i hi]
      exact this
    · have e' : gf (1000 + i) = gf (1000 + j) := e
      rw [eK i hi, eK j hj] at e'
      exact e'
  · intro i hi
    show vk_R RX5 _ _ (gf (1000 + i)) s
    rw [eK i hi]
    exact vk_R.of (hts _ (lwt_4 _ (sr_ok i hi))) (hSe i hi)
  · intro q hq
    simp only [nmN, List.mem_cons, List.not_mem_nil, or_false] at hq
    rcases hq with rfl | rfl | rfl
    · exact va_Nw.of rfl (hts _ (lwt_2 114 (by decide +kernel)))
    · exact va_Nw.of rfl (hts _ (lwt_4 20 (by decide +kernel)))
    · exact va_Nw.of rfl (hts _ (lwt_4 168 (by decide +kernel)))
/-! all made: the small machine's heap -/
theorem kd_all : ∀ k, k < 146 → kd k < 9 ∨ kd k = 10 ∨ kd k = 11 ∨ kd k = 12 ∨ kd k = 13 ∨ kd k = 14 ∨ kd k = 15 := by decide +kernel
theorem fc_need : ∀ ci, ci < 9 → ∀ j, j < 40 → 3 ≤ (fc ci).getD j 0 → j < ([10, 17, 1, 0, 7, 1, 6, 8, 39] : List Nat).getD ci 0 := by decide +kernel
theorem fc_40 : ∀ ci, ci < 9 → (fc ci).length ≤ 40 := by decide +kernel
theorem arr_ext {cA : ClassId} {n : Nat} {f f' : Nat → Option Nat} (h : ∀ j, j < n → f j = f' j) : vp_cell cA (n, .inr (.inr (.inr (.inr f)))) = vp_cell cA (n, .inr (.inr (.inr (.inr f')))) := by
  rw [vp_cell_q, vp_cell_q]
  unfold arrV
  have : (fun j : Fin n => va_rf (f j.val)) = (fun j : Fin n => va_rf (f' j.val)) := by
    funext j
    rw [h j.val j.isLt]
  rw [this]
section Ini
variable {g : GE} {q : PG} {h : HP} {H : Heap}
theorem rep_of (hR : RepC g 146 q h H) (hq : Ful q 0 146) (hw : gw h 0 = 0 ∧ gw h 1 = 0) : Rep g h H := by
  refine ⟨fun k e hk => ?_, hR.2.1, hR.2.2⟩
  have hk6 : k < 146 := by
    have := (List.getElem?_eq_some_iff.mp hk).1
    simpa [wd] using this
  rw [wd_get hk6] at hk
  cases hk
  have P := hR.1 k _ (wp_get hk6)
  have nd := hq k (Nat.zero_le _) hk6
  have ref : ∀ t, kd k = t + 10 → 3 ≤ t → ∀ f' : Nat → Option Nat, (∀ j, f' j = some (gB g + rfA k j)) → cellE g h k = .inl (gA g t, kn k, .inr (.inr (.inr (.inr f')))) → va_at (gC g, gS g) vwCl (gB g + k, cellE g h k) H := by
    intro t ht t3 f' hf he
    rw [pcell_r ht t3] at P
    rw [he]
    have P' : H[gB g + k]? = some (vp_cell (gA g t) (kn k, .inr (.inr (.inr (.inr (fun j => if j < q k then some (gB g + rfA k j) else none)))))) := P
    show H[gB g + k]? = some (vp_cell (gA g t) (kn k, .inr (.inr (.inr (.inr f')))))
    have nk : kn k ≤ q k := by
      unfold need at nd
      rw [ht, if_neg (by omega), if_neg (by omega)] at nd
      exact nd
    rw [P', arr_ext (f' := f') (fun j hj => by rw [if_pos (by omega), hf])]
  rcases kd_all k hk6 with z | z | z | z | z | z | z
  · rw [pcell_obj rfl (by omega)] at P
    rw [cellE_obj rfl (by omega)]
    have e : objF g h k (fc (kd k)) = pobj g h k (q k) (fc (kd k)) := by
      apply List.ext_getElem?
      intro j
      simp only [objF, pobj, List.getElem?_mapIdx]
      cases hc : (fc (kd k))[j]? with
      | none => rfl
      | some c =>
        simp only [Option.map_some]
        congr 1
        match c, hc with
        | 0, _ => rfl
        | 1, _ => show (if gw h 0 = 0 then Value.null else _) = Value.null; rw [if_pos hw.1]
        | 2, _ => show (if gw h 1 = 0 then Value.null else _) = Value.null; rw [if_pos hw.2]
        | n + 3, hc =>
          have j40 : j < 40 := Nat.lt_of_lt_of_le (List.getElem?_eq_some_iff.mp hc).1 (fc_40 _ z)
          have := fc_need _ z j j40 (by rw [List.getD_eq_getElem?_getD, hc]; show 3 ≤ n + 3; omega)
          unfold need at nd
          rw [if_pos (by omega)] at nd
          show Value.ref (gB g + (k + n)) = if j < q k then _ else _
          rw [if_pos (by omega)]
    rw [e]
    exact P
  · rw [pcell_i z] at P; rw [cellE_i z]; exact P
  · rw [pcell_c z] at P; rw [cellE_c z]; exact P
  · rw [pcell_l z] at P; rw [cellE_l z]; exact P
  · exact ref 3 z (by omega) _ (fun j => by unfold rfA; rw [z, if_pos rfl]) (cellE_s z)
  · exact ref 4 z (by omega) _ (fun j => by unfold rfA; rw [z, if_neg (by decide), if_pos rfl]) (cellE_n z)
  · exact ref 5 z (by omega) _ (fun j => by unfold rfA; rw [z, if_neg (by decide), if_neg (by decide)]) (cellE_h z)
end Ini
/-! the state in which both begin -/
def h00 : HP := (fun _ _ => 0, fun _ _ => 0, fun _ => 0)
def v00 : WV := ((0, 0, 0, 0), fun _ _ => 0, fun _ _ => 0, fun _ _ => 0)
def s00 : ST := (v00, (0, v00), fun _ => 0, (0, fun _ => 0), fun _ => (0, 0, fun _ => 0))
theorem zh00 : ZH h00 := ⟨fun _ _ => rfl, fun _ _ => rfl⟩
theorem g00 {a k : Nat} (ha : a ≠ 139) : gi (wHh h00 128) a k = nI 0 := wz zh00 ha
theorem wd00 : WD (wHh h00 128) := fun k hk => by rw [gi_wH, if_pos ⟨rfl, hk⟩]
theorem ws00 : WS 0 s00 := by
  have w : WF 99 (7000 * 0) v00 := ⟨⟨Nat.zero_le _, Nat.zero_le _, Nat.zero_le _⟩, fun s hs => absurd hs (Nat.not_lt_zero s), fun l hl => absurd hl (Nat.not_lt_zero l), Nat.le_refl 0, by decide, by decide⟩
  refine ⟨by decide, ⟨w, Nat.zero_le _⟩, ⟨Nat.zero_le _, fun z => absurd (show (0 : Nat) = 1 from z) (by decide)⟩, fun k _ => Nat.le_refl 0, ⟨Nat.zero_le _, fun i hi => absurd hi (Nat.not_lt_zero i)⟩, fun s _ => ⟨Or.inl rfl, Nat.zero_le _, fun _ => rfl⟩⟩
theorem ci00 : CI s00 (wHh h00 128) := by
  refine ⟨⟨⟨g00 (by decide), g00 (by decide), g00 (by decide), g00 (by decide)⟩, fun s hs => absurd hs (Nat.not_lt_zero s), fun l hl => absurd hl (Nat.not_lt_zero l), fun l hl => absurd hl (Nat.not_lt_zero l)⟩, ⟨g00 (by decide), fun z => absurd (show (0 : Nat) = 1 from z) (by decide)⟩, fun k _ => g00 (by decide), ⟨g00 (by decide), fun i hi => absurd hi (Nat.not_lt_zero i)⟩, fun s hs => ⟨g00 (by omega), g00 (by omega), fun i _ => rfl⟩⟩
theorem mi00 : MI s00 (wHh h00 128) := by
  refine ⟨⟨⟨g00 (by decide), g00 (by decide), g00 (by decide), g00 (by decide)⟩, fun s hs => absurd hs (Nat.not_lt_zero s), fun l hl => absurd hl (Nat.not_lt_zero l), fun l hl => absurd hl (Nat.not_lt_zero l), fun l hl => absurd hl (Nat.not_lt_zero l), fun l _ _ k _ => g00 (by decide)⟩, ⟨g00 (by decide), fun z => absurd (show (0 : Nat) = 1 from z) (by decide)⟩, fun k _ => g00 (by decide), ⟨g00 (by decide), fun i hi => absurd hi (Nat.not_lt_zero i)⟩, fun s hs => ⟨g00 (by decide), g00 (by decide), fun i _ => rfl⟩⟩
