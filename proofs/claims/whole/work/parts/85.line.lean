/-! a line of a text, the class; an item, the class -/
section Tok
variable {n p : Nat} {b : Nat → Int32} {h : HP} {u : WV}
theorem c_lno {Q : HP → Prop} {k x y : Nat} (hn : n ≤ 120) (hp : p ≤ n) (hT : TG n b p h) (hC : HC 59 u h) (hS : vS u ≤ 6) (hL : vL u < 10) (hY : ∀ p' u', loF n b k x y p u = .ok (p', u') → ∀ h', TG n b p' h' → HC 59 u' h' → FrI cellsU h h' → Q h') (hN : ∀ q, loF n b k x y p u = .error q → ∀ h', gi h' 105 2 = nI q → FrI cellsU h h' → Q h') : f_X6_addLine 59 (nI k) (nI x) (nI y) h (fun v9 h8 =>
    vp_in v9 10 ∧
    f_X5_takeOption 6012 0 99 10 h8 (fun v12 h11 =>
    ∀ h13 : HP, h13 = si h11 ((59 + 2) + 7 + 2 * ix v9) 3 v12 →
    f_X5_takeOption 6013 1 9 1 h13 (fun v15 h14 =>
    ∀ h16 : HP, h16 = si h14 ((59 + 2) + 7 + 2 * ix v9) 4 v15 →
    f_X5_takeOption 6014 0 5 0 h16 (fun v18 h17 =>
    ∀ h19 : HP, h19 = si h17 ((59 + 2) + 7 + 2 * ix v9) 5 v18 →
    f_X5_takeWord 6015 h19 (fun v21 h20 =>
    (((v21 = 0) →
      Q h20) ∧
     (¬ (v21 = 0) →
      f_X5_takeNumber 0 99 h20 (fun v24 h23 =>
      ∀ h25 : HP, h25 = si h23 ((59 + 2) + 7 + 2 * ix v9) 6 v24 →
      f_X5_takeNumber 0 999 h25 (fun v27 h26 =>
      ∀ h28 : HP, h28 = si h26 ((59 + 2) + 7 + 2 * ix v9) 7 v27 →
      Q h28))))))))) := by
  refine c_addLine hC hS hL (by decide +kernel) (fun x0 y0 h1 c1 f1 => ⟨vp_in_nI hL (by decide), ?_⟩)
  rw [ix_nI (by omega), show 59 + 2 + 7 + 2 * vL u = 59 + 9 + 2 * vL u by omega]
  have lL : vL u < vL u + 1 := by omega
  have sL : vL u + 1 ≤ 10 := by omega
  have T1 := hT.keep f1
  -- after a fault nothing more is read
  have bs : ∀ {g g' : HP} {q j : Nat} {v : Int32}, (gi g 105 2 = nI q ∧ FrI cellsU h g) → g' = si g (59 + 9 + 2 * vL u) j v → (gi g' 105 2 = nI q ∧ FrI cellsU h g') := by
    intro g g' q j v a e
    have f : FrI (cellsC 59) g g' := by rw [e]; exact FrI.si ⟨by omega, by omega⟩
    exact ⟨by rw [f.1 _ _ (by simp only [cellsC]; omega)]; exact a.1, a.2.trans (f.mono cC_U)⟩
  unfold loF at hY hN
  refine c_opt (w := 12) (lo := 0) (hx := 100) (d := 10) hn hp (by omega) rfl (by omega) (by omega) rfl T1 (fun wd p3 e2 h2 t2 f2 => ?_) (fun q e2 v h2 t2 f2 => ?_)
  · have b2 := opt_ok hp (by omega) e2
    have c2 := c1.w59 f2 hS sL
    simp only [e2] at hY hN
    intro h3 e3
    have c3 := hc_setL c2 hS sL (l := vL u) (k := 3) (x := wd) lL (by omega)
    rw [← e3] at c3
    have f3 : FrI (cellsC 59) h2 h3 := by rw [e3]; exact FrI.si ⟨by omega, by omega⟩
    have F3 : FrI cellsU h h3 := (f1.mono cC_U).trans ((f2.mono cW_U).trans (f3.mono cC_U))
    refine c_opt (w := 13) (lo := 1) (hx := 10) (d := 1) hn b2.2.2.1 (by omega) rfl (by omega) (by omega) rfl (t2.keep f3) (fun tk p4 e4 h4 t4 f4 => ?_) (fun q e4 v h4 t4 f4 => ?_)
    · have b4 := opt_ok b2.2.2.1 (by omega) e4
      have c4 := c3.w59 f4 hS sL
      simp only [e4] at hY hN
      intro h5 e5
      have c5 := hc_setL c4 hS sL (l := vL u) (k := 4) (x := tk) lL (by omega)
      rw [← e5, addL_set] at c5
      have f5 : FrI (cellsC 59) h4 h5 := by rw [e5]; exact FrI.si ⟨by omega, by omega⟩
      have F5 : FrI cellsU h h5 := F3.trans ((f4.mono cW_U).trans (f5.mono cC_U))
      refine c_opt (w := 14) (lo := 0) (hx := 6) (d := 0) hn b4.2.2.1 (by omega) rfl (by omega) (by omega) rfl (t4.keep f5) (fun ti p6 e6 h6 t6 f6 => ?_) (fun q e6 v h6 t6 f6 => ?_)
      · have b6 := opt_ok b4.2.2.1 (by omega) e6
        have c6 := c5.w59 f6 hS sL
        simp only [e6] at hY hN
        intro h7 e7
        have c7 := hc_setL c6 hS sL (l := vL u) (k := 5) (x := ti) lL (by omega)
        rw [← e7] at c7
        have f7 : FrI (cellsC 59) h6 h7 := by rw [e7]; exact FrI.si ⟨by omega, by omega⟩
        have F7 : FrI cellsU h h7 := F5.trans ((f6.mono cW_U).trans (f7.mono cC_U))
        exact c_lnx hn b6.2.2.1 (t6.keep f7) c7 hS sL lL (fun p' u' e' h' t' c' f' => hY p' u' e' h' t' c' (F7.trans f')) (fun q e' h' t' f' => hN q e' h' t' (F7.trans f'))
      · have q1 := opt_er b4.2.2.1 e6
        simp only [e6] at hY hN
        have B : gi h6 105 2 = nI q ∧ FrI cellsU h h6 := ⟨t6, F5.trans (f6.mono cW_U)⟩
        intro h7 e7
        have B7 := bs B e7
        exact b_word (by omega) B7.1 (br0 (hN q rfl h7 B7.1 B7.2))
    · have q1 := opt_er b2.2.2.1 e4
      simp only [e4] at hY hN
      have B : gi h4 105 2 = nI q ∧ FrI cellsU h h4 := ⟨t4, F3.trans (f4.mono cW_U)⟩
      intro h5 e5
      have B5 := bs B e5
      refine b_opt (by omega) B5.1 ?_
      intro h7 e7
      have B7 := bs B5 e7
      exact b_word (by omega) B7.1 (br0 (hN q rfl h7 B7.1 B7.2))
  · have q1 := opt_er hp e2
    simp only [e2] at hY hN
    have B : gi h2 105 2 = nI q ∧ FrI cellsU h h2 := ⟨t2, (f1.mono cC_U).trans (f2.mono cW_U)⟩
    intro h3 e3
    have B3 := bs B e3
    refine b_opt (by omega) B3.1 ?_
    intro h5 e5
    have B5 := bs B3 e5
    refine b_opt (by omega) B5.1 ?_
    intro h7 e7
    have B7 := bs B5 e7
    exact b_word (by omega) B7.1 (br0 (hN q rfl h7 B7.1 B7.2))
theorem lt0_nI {q : Nat} (hq : q < 2 ^ 31) : ¬ nI q < (0 : Int32) := by rw [i32_lt, i32_0, nI_toInt hq]; omega
theorem c_lin {Q : HP → Prop} {k : Nat} (hn : n ≤ 120) (hp : p ≤ n) (hT : TG n b p h) (hC : HC 59 u h) (hS : vS u ≤ 6) (hL : vL u < 10) (hY : ∀ p' u', lnF n b k p u = .ok (p', u') → ∀ h', TG n b p' h' → HC 59 u' h' → FrI cellsU h h' → Q h') (hN : ∀ q, lnF n b k p u = .error q → ∀ h', gi h' 105 2 = nI q → FrI cellsU h h' → Q h') : f_X5_readLine 59 (nI k) h Q := by
  unfold f_X5_readLine
  intro x3 e3
  rw [hC.1.2.2.1] at e3
  have t3 : x3.toInt = (vS u : Int) - 1 := by rw [e3]; exact nI_pre (by omega)
  have kl : ∀ p, tK n b p ≤ 4 := by
    intro p
    unfold tK
    have := kcF_pos (x := b (tP n b p))
    split <;> omega
  unfold lnF at hY hN
  -- a fault seen
  have bj : ∀ q (v : Int32) g, q ≤ 120 → gi g 105 2 = nI q → FrI cellsU h g → (∀ h', gi h' 105 2 = nI q → FrI cellsU h h' → Q h') → f_X5_readLine_J36 59 (nI k) x3 v Q g := by
    intro q v g hq gq gf hK
    unfold f_X5_readLine_J36
    refine b_num hq gq ⟨fun z => ?_, fun _ => hK g gq gf⟩
    rw [gq] at z
    exact absurd z (lt0_nI (by omega))
  refine c_num (lo := 0) hn hp (by omega) (by omega) t3 hT (fun x p1 e1 h1 t1 f1 => ?_) (fun q e1 h1 t1 f1 => ?_)
  · have b1 := num_ok hp e1
    have c1 := hC.w59 f1 hS (by omega)
    simp only [e1] at hY hN
    have go : ¬ (tK n b p1 = 2 ∧ tV n b p1 = x) → f_X5_readLine_J36 59 (nI k) x3 (nI x) Q h1 := by
      intro z
      rw [if_neg z] at hY hN
      unfold f_X5_readLine_J36
      refine c_num (lo := 0) hn b1.2.2.1 (by omega) (by omega) t3 t1 (fun y p2 e2 h2 t2 f2 => ?_) (fun q e2 h2 t2 f2 => ?_)
      · have b2 := num_ok b1.2.2.1 e2
        have c2 := c1.w59 f2 hS (by omega)
        simp only [e2] at hY hN
        rw [t2.2]
        refine ⟨fun _ => ?_, fun z => absurd (by decide) z⟩
        exact c_lno hn b2.2.2.1 t2 c2 hS hL (fun p' u' e' h' t' c' f' => hY p' u' e' h' t' c' (((f1.trans f2).mono cW_U).trans f')) (fun q e' h' t' f' => hN q e' h' t' (((f1.trans f2).mono cW_U).trans f'))
      · have q2 := num_er b1.2.2.1 e2
        simp only [e2] at hY hN
        rw [t2]
        exact ⟨fun z => absurd z (lt0_nI (by omega)), fun _ => hN q rfl h2 t2 ((f1.trans f2).mono cW_U)⟩
    rw [t1.1.2.2.1]
    refine br_eq (b := 2) (by have := kl p1; omega) (by omega) (fun z => ?_) (fun z => go (fun q => z q.1))
    rw [t1.1.2.2.2.2.2 z]
    refine br_eq (by omega) (by omega) (fun z2 => ?_) (fun z2 => go (fun q => z2 (by have := q.2; omega)))
    have zz : tK n b p1 = 2 ∧ tV n b p1 = x := ⟨z, by omega⟩
    rw [if_pos zz] at hY hN
    have tb := tP_b (b := b) b1.2.2.1
    exact c_fail t1 (fun h2 t2 f2 => bj _ _ h2 (by omega) t2 ((f1.trans f2).mono cW_U) (hN _ rfl))
  · have q1 := num_er hp e1
    simp only [e1] at hY hN
    have all := bj q (nI 0) h1 (by omega) t1 (f1.mono cW_U) (hN q rfl)
    exact ⟨fun _ => ⟨fun _ => b_fail (by omega) t1 all, fun _ => all⟩, fun _ => all⟩
theorem c_sKind {Q : Int32 → HP → Prop} (hn : n ≤ 120) (hp : p ≤ n) (hT : TC n b p h) (h1 : ∀ w, w < 4 → wmt n b p w → Q (nI w) h) (h0 : (∀ w, w < 4 → ¬ wmt n b p w) → Q (-1) h) : f_X5_stationKind h Q := by
  unfold f_X5_stationKind
  refine c_isWord (w := 0) hn hp (by omega) rfl hT (fun z => br1 (h1 0 (by omega) z)) (fun z0 => br0 ?_)
  refine c_isWord (w := 1) hn hp (by omega) rfl hT (fun z => br1 (h1 1 (by omega) z)) (fun z1 => br0 ?_)
  refine c_isWord (w := 2) hn hp (by omega) rfl hT (fun z => br1 (h1 2 (by omega) z)) (fun z2 => br0 ?_)
  refine c_isWord (w := 3) hn hp (by omega) rfl hT (fun z => ?_) (fun z3 => ?_)
  · rw [if_neg n10]; exact h1 3 (by omega) z
  · rw [if_pos rfl]
    refine h0 (fun w hw => ?_)
    have : w = 0 ∨ w = 1 ∨ w = 2 ∨ w = 3 := by omega
    rcases this with rfl | rfl | rfl | rfl
    · exact z0
    · exact z1
    · exact z2
    · exact z3
theorem c_lKind {Q : Int32 → HP → Prop} (hn : n ≤ 120) (hp : p ≤ n) (hT : TC n b p h) (h1 : ∀ w, w < 6 → wmt n b p (4 + w) → Q (nI w) h) (h0 : (∀ w, w < 6 → ¬ wmt n b p (4 + w)) → Q (-1) h) : f_X5_lineKind h Q := by
  unfold f_X5_lineKind
  refine c_isWord (w := 4) hn hp (by omega) rfl hT (fun z => br1 (h1 0 (by omega) z)) (fun z0 => br0 ?_)
  refine c_isWord (w := 5) hn hp (by omega) rfl hT (fun z => br1 (h1 1 (by omega) z)) (fun z1 => br0 ?_)
  refine c_isWord (w := 6) hn hp (by omega) rfl hT (fun z => br1 (h1 2 (by omega) z)) (fun z2 => br0 ?_)
  refine c_isWord (w := 7) hn hp (by omega) rfl hT (fun z => br1 (h1 3 (by omega) z)) (fun z3 => br0 ?_)
  refine c_isWord (w := 8) hn hp (by omega) rfl hT (fun z => br1 (h1 4 (by omega) z)) (fun z4 => br0 ?_)
  refine c_isWord (w := 9) hn hp (by omega) rfl hT (fun z => ?_) (fun z5 => ?_)
  · rw [if_neg n10]; exact h1 5 (by omega) z
  · rw [if_pos rfl]
    refine h0 (fun w hw => ?_)
    have : w = 0 ∨ w = 1 ∨ w = 2 ∨ w = 3 ∨ w = 4 ∨ w = 5 := by omega
    rcases this with rfl | rfl | rfl | rfl | rfl | rfl
    · exact z0
    · exact z1
    · exact z2
    · exact z3
    · exact z4
    · exact z5
theorem c_item {Q : HP → Prop} (hn : n ≤ 120) (hp : p ≤ n) (hT : TG n b p h) (hC : HC 59 u h) (hS : vS u ≤ 6) (hL : vL u ≤ 10) (hY : ∀ p' u', itF n b p u = .ok (p', u') → ∀ h', TG n b p' h' → HC 59 u' h' → FrI cellsU h h' → Q h') (hN : ∀ q, itF n b p u = .error q → ∀ h', gi h' 105 2 = nI q → FrI cellsU h h' → Q h') : f_X5_readItem 59 h Q := by
  unfold f_X5_readItem
  have eb := tE_b (b := b) hp
  have m1 : (-1 : Int32) < 0 := by decide
  have fl : itF n b p u = .error (tP n b p) → f_X5_fail h (fun h7 => Q h7) := fun e => c_fail hT (fun h' t f => hN _ e h' t (f.mono cW_U))
  refine c_sKind hn hp hT.1 (fun w hw z => ?_) (fun z => ?_)
  · have e := it_w (u := u) (by omega : w < 10) z
    unfold itW at e
    rw [if_pos hw] at e
    have ln : f_X5_lineKind h (fun v4 h3 => (((nI w < 0) → f_X5_readItem_J36 59 v4 Q h3) ∧ (¬ (nI w < 0) → (((6 ≤ (gi h3 59 2)) → f_X5_readItem_J36 59 v4 Q h3) ∧ (¬ (6 ≤ (gi h3 59 2)) → f_X5_readToken h3 (fun h13 => f_X5_readStation 59 (nI w) h13 (fun h14 => Q h14))))))) := by
      refine c_lKind hn hp hT.1 (fun w' hw' z' => ?_) (fun _ => ?_)
      · have := wm_one (by omega) (by omega) z.2 z'.2; omega
      · refine ⟨fun q => absurd q (lt0_nI (by omega)), fun _ => ?_⟩
        rw [hC.1.2.2.1]
        refine br_le (a := 6) (by omega) (by omega) (fun q => ?_) (fun q => ?_)
        · rw [if_neg (by omega)] at e
          unfold f_X5_readItem_J36
          exact ⟨fun _ => fl e, fun q => absurd m1 q⟩
        · rw [if_pos (by omega)] at e
          rw [e] at hY hN
          refine hT.next hn hp (fun h1 t1 f1 => ?_)
          exact c_stn hn eb.2.1 t1 (hC.w59 f1 hS hL) q hL (fun p' u' e' h' t' c' f' => hY p' u' e' h' t' c' ((f1.mono cW_U).trans f')) (fun q e' h' t' f' => hN q e' h' t' ((f1.mono cW_U).trans f'))
    exact ln
  · refine c_lKind hn hp hT.1 (fun w hw z2 => ⟨fun _ => ?_, fun q => absurd m1 q⟩) (fun z2 => ⟨fun _ => ?_, fun q => absurd m1 q⟩)
    · have e := it_w (u := u) (by omega : 4 + w < 10) z2
      unfold itW at e
      rw [if_neg (by omega), show 4 + w - 4 = w by omega] at e
      unfold f_X5_readItem_J36
      refine ⟨fun q => absurd q (lt0_nI (by omega)), fun _ => ?_⟩
      rw [hC.1.2.2.2]
      refine br_le (a := 10) (by omega) (by omega) (fun q => ?_) (fun q => ?_)
      · rw [if_neg (by omega)] at e
        exact fl e
      · rw [if_pos (by omega)] at e
        rw [e] at hY hN
        refine hT.next hn hp (fun h1 t1 f1 => ?_)
        exact c_lin hn eb.2.1 t1 (hC.w59 f1 hS hL) hS q (fun p' u' e' h' t' c' f' => hY p' u' e' h' t' c' ((f1.mono cW_U).trans f')) (fun q e' h' t' f' => hN q e' h' t' ((f1.mono cW_U).trans f'))
    · unfold f_X5_readItem_J36
      refine ⟨fun _ => fl (it_no (fun w hw => ?_)), fun q => absurd m1 q⟩
      by_cases q : w < 4
      · exact z w q
      · have := z2 (w - 4) (by omega)
        rw [show 4 + (w - 4) = w by omega] at this
        exact this
end Tok
