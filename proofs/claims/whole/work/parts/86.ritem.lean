/-! an item of a text, the reference -/
def Ext (u u' : WV) : Prop := (vT u' = vT u ∧ vLo u' = vLo u ∧ vS u ≤ vS u' ∧ vL u ≤ vL u') ∧ (∀ s k, s < vS u → vs u' s k = vs u s k) ∧ (∀ l k, l < vL u → vl u' l k = vl u l k) ∧ (∀ l k, l < vL u → vy u' l k = vy u l k) ∧ ∀ l k, vL u ≤ l → l < vL u' → vy u' l k = 0
theorem Ext.rf {u : WV} : Ext u u := ⟨⟨rfl, rfl, Nat.le_refl _, Nat.le_refl _⟩, fun _ _ _ => rfl, fun _ _ _ => rfl, fun _ _ _ => rfl, fun _ _ _ _ => by omega⟩
theorem Ext.trans {u u1 u2 : WV} (a : Ext u u1) (c : Ext u1 u2) : Ext u u2 := by
  obtain ⟨⟨a1, a2, a3, a4⟩, a5, a6, a7, a8⟩ := a
  obtain ⟨⟨c1, c2, c3, c4⟩, c5, c6, c7, c8⟩ := c
  refine ⟨⟨by omega, by omega, by omega, by omega⟩, fun s k hs => ?_, fun l k hl => ?_, fun l k hl => ?_, fun l k h1 h2 => ?_⟩
  · rw [c5 s k (by omega), a5 s k hs]
  · rw [c6 l k (by omega), a6 l k hl]
  · rw [c7 l k (by omega), a7 l k hl]
  · by_cases q : l < vL u1
    · rw [c7 l k q, a8 l k h1 q]
    · exact c8 l k (by omega) h2
theorem Ext.addS {u u1 : WV} (a : Ext u u1) {x y z : Nat} : Ext u (addS u1 x y z) := by
  obtain ⟨⟨a1, a2, a3, a4⟩, a5, a6, a7, a8⟩ := a
  refine ⟨⟨a1, a2, by show vS u ≤ vS u1 + 1; omega, a4⟩, fun s k hs => ?_, a6, a7, a8⟩
  rw [vs_addS, if_neg (by omega), a5 s k hs]
theorem Ext.addL {u u1 : WV} (a : Ext u u1) {x y z d e : Nat} : Ext u (addL u1 x y z d e) := by
  obtain ⟨⟨a1, a2, a3, a4⟩, a5, a6, a7, a8⟩ := a
  refine ⟨⟨a1, a2, a3, by show vL u ≤ vL u1 + 1; omega⟩, a5, fun l k hl => ?_, fun l k hl => ?_, fun l k h1 h2 => ?_⟩
  · rw [vl_addL, if_neg (by omega), a6 l k hl]
  · rw [vy_addL, if_neg (by omega), a7 l k hl]
  · rw [vy_addL]
    by_cases q : l = vL u1
    · rw [if_pos q]
    · rw [if_neg q]
      have h2' : l < vL u1 + 1 := h2
      exact a8 l k h1 (by omega)
theorem Ext.setS {u u1 : WV} (a : Ext u u1) {s k x : Nat} (hs : vS u ≤ s) : Ext u (setS u1 s k x) := by
  obtain ⟨a1, a5, a6, a7, a8⟩ := a
  refine ⟨a1, fun s' k' hs' => ?_, a6, a7, a8⟩
  rw [vs_setS, if_neg (by omega), a5 s' k' hs']
theorem Ext.setL {u u1 : WV} (a : Ext u u1) {l k x : Nat} (hl : vL u ≤ l) : Ext u (setL u1 l k x) := by
  obtain ⟨a1, a5, a6, a7, a8⟩ := a
  refine ⟨a1, a5, fun l' k' hl' => ?_, a7, a8⟩
  rw [vl_setL, if_neg (by omega), a6 l' k' hl']
theorem addS_set {v : WV} {a b c s : Nat} : setS (addS v a b c) (vS v) 1 s = addS v a s c := by
  unfold setS addS
  simp only [Prod.mk.injEq, true_and, and_true]
  funext s' k
  by_cases e : s' = vS v
  · subst e
    by_cases k1 : k = 1
    · subst k1; simp
    · simp [k1]
  · simp [e]
abbrev cellsTx : Nat → Nat → Prop := fun a k => (a = 117 ∧ (k = 1 ∨ k = 2 ∨ k = 3 ∨ k = 7 ∨ (27 ≤ k ∧ k ≤ 32))) ∨ (119 ≤ a ∧ a ≤ 124)
theorem cZ_V : ∀ a k, cellsZ a k → cellsTx a k := by intro a k; simp only [cellsZ, cellsTx]; omega
theorem cQ_V : ∀ a k, cellsQ a k → cellsTx a k := by intro a k; simp only [cellsQ, cellsTx]; omega
theorem cM_V : ∀ a k, cellsM a k → cellsTx a k := by intro a k; simp only [cellsM, cellsTx]; omega
section Tok
variable {n p : Nat} {b : Nat → Int32} {h : HP} {u : WV}
theorem TR.m {h' : HP} (hT : TR n b p h) (f : FrI cellsM h h') : TR n b p h' := hT.keep (fun a k q => f.1 _ _ (by simp only [cellsM]; omega))
theorem HM.z {h' : HP} (hM : HM u h) (f : FrI cellsZ h h') : HM u h' := hM.frame f (by intro a k; simp only [cellsM, cellsZ]; omega)
theorem HM.q {h' : HP} (hM : HM u h) (f : FrI cellsQ h h') : HM u h' := hM.frame f (by intro a k; simp only [cellsM, cellsQ]; omega)
theorem nI_m1 {k : Nat} : nI (k + 1) - 1 = nI k := by rw [lit 1, nI_sub (by omega), Nat.add_sub_cancel]
theorem m_stn {Q : Int32 → HP → Prop} {k : Nat} (hn : n ≤ 120) (hp : p ≤ n) (hb : ∀ i, i < n → 0 ≤ (b i).toInt) (hT : TR n b p h) (hM : HM u h) (hS : vS u < 6) (hY : ∀ p' u', stF n b k (tE n b p) u = .ok (p', u') → ∀ h', TR n b p' h' → HM u' h' → FrI cellsTx h h' → Q 1 h') (hN : ∀ q, stF n b k (tE n b p) u = .error q → ∀ h' u', gi h' 117 28 = nI q → HM u' h' → Ext u u' → FrI cellsTx h h' → Q 0 h') : f_X8_readsStation (nI k) h Q := by
  unfold f_X8_readsStation
  have eb := tE_b (b := b) hp
  rw [hM.1.2.2.1]
  refine br_eq (b := 6) (by omega) (by omega) (fun z => by omega) (fun _ => ?_)
  refine hT.next hn hp hb (fun h1 t1 f1 => ?_)
  have M1 := hM.q f1
  refine m_addStation (a := k) (b := 0) (c := 20) M1 hS (fun h2 M2 f2 => ?_)
  have t2 := t1.m f2
  have F2 : FrI cellsTx h h2 := (f1.mono cQ_V).trans (f2.mono cM_V)
  have x2 : Ext u (addS u k 0 20) := Ext.rf.addS
  unfold stF at hY hN
  refine m_opt (w := 10) (lo := 0) (hx := 1000) (d := 0) hn eb.2.1 hb (by omega) (by omega) (by omega) rfl t2 (fun s p3 e3 h3 t3 g3 f3 => br1 ?_) (fun q e3 h3 g3 f3 => br0 ?_)
  · have b3 := opt_ok eb.2.1 (by omega) e3
    have M3 := M2.z f3
    simp only [e3] at hY hN
    have g : gi h3 117 3 = nI (vS u + 1) := M3.1.2.2.1
    rw [g, nI_m1, g3, ix_nI (by omega)]
    refine ⟨vp_in_nI hS (by decide), ?_⟩
    intro h4 e4
    have M4 := hm_setS M3 (s := vS u) (k := 1) (x := s) (by omega)
    rw [← e4, addS_set] at M4
    have f4 : FrI cellsM h3 h4 := by rw [e4]; exact FrI.si (Or.inr ⟨by omega, by omega⟩)
    have F4 : FrI cellsTx h h4 := F2.trans ((f3.mono cZ_V).trans (f4.mono cM_V))
    refine m_opt (w := 11) (lo := 0) (hx := 100) (d := 20) hn b3.2.2.1 hb (by omega) (by omega) (by omega) rfl (t3.m f4) (fun t p5 e5 h5 t5 g5 f5 => ?_) (fun q e5 h5 g5 f5 => ?_)
    · have M5 := M4.z f5
      simp only [e5] at hY hN
      unfold f_X8_readsStation_J66
      refine br1 ?_
      have g' : gi h5 117 3 = nI (vS u + 1) := M5.1.2.2.1
      rw [g', nI_m1, g5, ix_nI (by omega)]
      refine ⟨vp_in_nI hS (by decide), ?_⟩
      intro h6 e6
      have M6 := hm_setS M5 (s := vS u) (k := 2) (x := t) (by omega)
      rw [← e6] at M6
      have f6 : FrI cellsM h5 h6 := by rw [e6]; exact FrI.si (Or.inr ⟨by omega, by omega⟩)
      exact hY p5 _ rfl h6 (t5.m f6) M6 (F4.trans ((f5.mono cZ_V).trans (f6.mono cM_V)))
    · simp only [e5] at hY hN
      unfold f_X8_readsStation_J66
      exact br0 (hN q rfl h5 _ g5 (M4.z f5) Ext.rf.addS (F4.trans (f5.mono cZ_V)))
  · simp only [e3] at hY hN
    unfold f_X8_readsStation_J66
    exact br0 (hN q rfl h3 _ g3 (M2.z f3) x2 (F2.trans (f3.mono cZ_V)))
theorem m_lno {Q : Int32 → HP → Prop} {k x y : Nat} (hn : n ≤ 120) (hp : p ≤ n) (hb : ∀ i, i < n → 0 ≤ (b i).toInt) (hT : TR n b p h) (hM : HM u h) (hL : vL u < 10) (hY : ∀ p' u', loF n b k x y p u = .ok (p', u') → ∀ h', TR n b p' h' → HM u' h' → FrI cellsTx h h' → Q 1 h') (hN : ∀ q, loF n b k x y p u = .error q → ∀ h' u', gi h' 117 28 = nI q → HM u' h' → Ext u u' → FrI cellsTx h h' → Q 0 h') : f_X8_addLine (nI k) (nI x) (nI y) h (fun h11 =>
    ∀ x3_12 : Int32, x3_12 = (8 * ((gi h11 117 7) - 1)) →
    f_X8_perhaps 12 0 99 10 h11 (fun v14 h13 =>
    (((v14 = 0) →
      Q 0 h13) ∧
     (¬ (v14 = 0) →
      vp_in (x3_12 + 3) 80 ∧
      ∀ h17 : HP, h17 = si h13 122 (ix (x3_12 + 3)) (gi h13 117 32) →
      f_X8_perhaps 13 1 9 1 h17 (fun v19 h18 =>
      (((v19 = 0) →
        Q 0 h18) ∧
       (¬ (v19 = 0) →
        vp_in (x3_12 + 4) 80 ∧
        ∀ h22 : HP, h22 = si h18 122 (ix (x3_12 + 4)) (gi h18 117 32) →
        f_X8_perhaps 14 0 5 0 h22 (fun v24 h23 =>
        (((v24 = 0) →
          Q 0 h23) ∧
         (¬ (v24 = 0) →
          vp_in (x3_12 + 5) 80 ∧
          ∀ h27 : HP, h27 = si h23 122 (ix (x3_12 + 5)) (gi h23 117 32) →
          f_X8_isWord 15 h27 (fun v29 h28 =>
          (((v29 = 0) →
            Q 1 h28) ∧
           (¬ (v29 = 0) →
            f_X8_perhaps 15 0 99 0 h28 (fun v32 h31 =>
            (((v32 = 0) →
              Q 0 h31) ∧
             (¬ (v32 = 0) →
              vp_in (x3_12 + 6) 80 ∧
              ∀ h35 : HP, h35 = si h31 122 (ix (x3_12 + 6)) (gi h31 117 32) →
              f_X8_takesNumber 0 999 h35 (fun v37 h36 =>
              (((v37 = 0) →
                Q 0 h36) ∧
               (¬ (v37 = 0) →
                vp_in (x3_12 + 7) 80 ∧
                ∀ h40 : HP, h40 = si h36 122 (ix (x3_12 + 7)) (gi h36 117 32) →
                Q 1 h40))))))))))))))))))) := by
  refine m_addLine hM hL (fun h1 M1 f1 => ?_)
  intro x3 e3
  have g : gi h1 117 7 = nI (vL u + 1) := M1.1.2.2.2
  rw [g, nI_m1, lit 8, nI_mul] at e3
  rw [e3]
  have ad : ∀ j : Nat, nI (8 * vL u) + nI j = nI (8 * vL u + j) := fun j => nI_add _ _
  have vp : ∀ j, j < 8 → vp_in (nI (8 * vL u + j)) 80 := fun j hj => vp_in_nI (by omega) (by decide)
  have ixx : ∀ j, j < 8 → ix (nI (8 * vL u + j)) = 8 * vL u + j := fun j hj => ix_nI (by omega)
  have fs : ∀ {g g' : HP} {j : Nat} {v : Int32}, g' = si g 122 j v → FrI cellsM g g' := fun e => by rw [e]; exact FrI.si (Or.inr ⟨by omega, by omega⟩)
  rw [show nI (8 * vL u) + 3 = nI (8 * vL u + 3) from ad 3, show nI (8 * vL u) + 4 = nI (8 * vL u + 4) from ad 4, show nI (8 * vL u) + 5 = nI (8 * vL u + 5) from ad 5, show nI (8 * vL u) + 6 = nI (8 * vL u + 6) from ad 6, show nI (8 * vL u) + 7 = nI (8 * vL u + 7) from ad 7, ixx 3 (by omega), ixx 4 (by omega), ixx 5 (by omega), ixx 6 (by omega), ixx 7 (by omega)]
  have F1 : FrI cellsTx h h1 := f1.mono cM_V
  have x1 : Ext u (addL u k x y 10 1) := Ext.rf.addL
  have ll : vL u ≤ vL u := Nat.le_refl _
  unfold loF at hY hN
  refine m_opt (w := 12) (lo := 0) (hx := 100) (d := 10) hn hp hb (by omega) (by omega) (by omega) rfl (hT.m f1) (fun wd p2 e2 h2 t2 g2 f2 => br1 ⟨vp 3 (by omega), ?_⟩) (fun q e2 h2 g2 f2 => br0 ?_)
  · have b2 := opt_ok hp (by omega) e2
    simp only [e2] at hY hN
    intro h3 e3
    rw [g2] at e3
    have M3 := hm_setL (M1.z f2) (l := vL u) (k := 3) (x := wd) (by omega)
    rw [← e3] at M3
    have F3 : FrI cellsTx h h3 := F1.trans ((f2.mono cZ_V).trans ((fs e3).mono cM_V))
    refine m_opt (w := 13) (lo := 1) (hx := 10) (d := 1) hn b2.2.2.1 hb (by omega) (by omega) (by omega) rfl (t2.m (fs e3)) (fun tk p4 e4 h4 t4 g4 f4 => br1 ⟨vp 4 (by omega), ?_⟩) (fun q e4 h4 g4 f4 => br0 ?_)
    · have b4 := opt_ok b2.2.2.1 (by omega) e4
      simp only [e4] at hY hN
      intro h5 e5
      rw [g4] at e5
      have M5 := hm_setL (M3.z f4) (l := vL u) (k := 4) (x := tk) (by omega)
      rw [← e5, addL_set] at M5
      have F5 : FrI cellsTx h h5 := F3.trans ((f4.mono cZ_V).trans ((fs e5).mono cM_V))
      refine m_opt (w := 14) (lo := 0) (hx := 6) (d := 0) hn b4.2.2.1 hb (by omega) (by omega) (by omega) rfl (t4.m (fs e5)) (fun ti p6 e6 h6 t6 g6 f6 => br1 ⟨vp 5 (by omega), ?_⟩) (fun q e6 h6 g6 f6 => br0 ?_)
      · have b6 := opt_ok b4.2.2.1 (by omega) e6
        have eb := tE_b (b := b) b6.2.2.1
        simp only [e6] at hY hN
        intro h7 e7
        rw [g6] at e7
        have M7 := hm_setL (M5.z f6) (l := vL u) (k := 5) (x := ti) (by omega)
        rw [← e7] at M7
        have F7 : FrI cellsTx h h7 := F5.trans ((f6.mono cZ_V).trans ((fs e7).mono cM_V))
        have t7 := t6.m (fs e7)
        have x7 : Ext u (setL (addL u k x y wd tk) (vL u) 5 ti) := Ext.rf.addL.setL ll
        unfold f_X8_isWord
        rw [t7.1.2.2.1]
        unfold lxF at hY hN
        by_cases z : wmt n b p6 15
        · have zz : cdF n b p6 = 10 + 15 := (kcd_w (w := 15) (by omega)).mpr z
          rw [if_pos z] at hY hN
          rw [if_pos zz]
          have eo : optF n b 15 0 100 0 p6 = numF n b 0 100 (tE n b p6) := by unfold optF; rw [if_pos z]
          refine br1 (m_opt (w := 15) (lo := 0) (hx := 100) (d := 0) hn b6.2.2.1 hb (by omega) (by omega) (by omega) rfl t7 (fun c p8 e8 h8 t8 g8 f8 => br1 ⟨vp 6 (by omega), ?_⟩) (fun q e8 h8 g8 f8 => br0 ?_))
          · have b8 := opt_ok b6.2.2.1 (by omega) e8
            rw [eo] at e8
            simp only [e8] at hY hN
            intro h9 e9
            rw [g8] at e9
            have M9 := hm_setL (M7.z f8) (l := vL u) (k := 6) (x := c) (by omega)
            rw [← e9] at M9
            have F9 : FrI cellsTx h h9 := F7.trans ((f8.mono cZ_V).trans ((fs e9).mono cM_V))
            refine m_num (lo := 0) (hx := 1000) hn b8.2.2.1 hb (by omega) (by omega) rfl (t8.m (fs e9)) (fun d p10 e10 h10 t10 g10 f10 => br1 ⟨vp 7 (by omega), ?_⟩) (fun q e10 g10 => br0 ?_)
            · simp only [e10] at hY hN
              intro h11 e11
              rw [g10] at e11
              have M11 := hm_setL (M9.z f10) (l := vL u) (k := 7) (x := d) (by omega)
              rw [← e11] at M11
              exact hY p10 _ rfl h11 (t10.m (fs e11)) M11 (F9.trans ((f10.mono cZ_V).trans ((fs e11).mono cM_V)))
            · simp only [e10] at hY hN
              exact hN q rfl h9 _ g10 M9 (x7.setL ll) F9
          · rw [eo] at e8
            simp only [e8] at hY hN
            exact hN q rfl h8 _ g8 (M7.z f8) x7 (F7.trans (f8.mono cZ_V))
        · have zz : ¬ cdF n b p6 = 10 + 15 := fun q => z ((kcd_w (w := 15) (by omega)).mp q)
          rw [if_neg z] at hY hN
          rw [if_neg zz]
          exact br0 (hY p6 _ rfl h7 t7 M7 F7)
      · simp only [e6] at hY hN
        exact hN q rfl h6 _ g6 (M5.z f6) Ext.rf.addL (F5.trans (f6.mono cZ_V))
    · simp only [e4] at hY hN
      exact hN q rfl h4 _ g4 (M3.z f4) (x1.setL ll) (F3.trans (f4.mono cZ_V))
  · simp only [e2] at hY hN
    exact hN q rfl h2 _ g2 (M1.z f2) x1 (F1.trans (f2.mono cZ_V))
end Tok
