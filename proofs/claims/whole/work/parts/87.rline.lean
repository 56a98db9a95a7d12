/-! a line and an item of a text, the reference -/
section Tok
variable {n p : Nat} {b : Nat → Int32} {h : HP} {u : WV}
theorem m_lin {Q : Int32 → HP → Prop} {k : Nat} (hn : n ≤ 120) (hp : p ≤ n) (hb : ∀ i, i < n → 0 ≤ (b i).toInt) (hT : TR n b p h) (hM : HM u h) (hS : vS u ≤ 6) (hL : vL u < 10) (hY : ∀ p' u', lnF n b k (tE n b p) u = .ok (p', u') → ∀ h', TR n b p' h' → HM u' h' → FrI cellsTx h h' → Q 1 h') (hN : ∀ q, lnF n b k (tE n b p) u = .error q → ∀ h' u', gi h' 117 28 = nI q → HM u' h' → Ext u u' → FrI cellsTx h h' → Q 0 h') : f_X8_readsLine (nI k) h Q := by
  unfold f_X8_readsLine
  have eb := tE_b (b := b) hp
  rw [hM.1.2.2.2]
  refine br_eq (b := 10) (by omega) (by omega) (fun z => by omega) (fun _ => ?_)
  refine hT.next hn hp hb (fun h1 t1 f1 => ?_)
  have M1 := hM.q f1
  have F1 : FrI cellsTx h h1 := f1.mono cQ_V
  have gS : gi h1 117 3 = nI (vS u) := M1.1.2.2.1
  rw [gS]
  unfold lnF at hY hN
  refine m_num (lo := 0) (hx := vS u) hn eb.2.1 hb (by omega) (by omega) (nI_pre (by omega)) t1 (fun x p2 e2 h2 t2 g2 f2 => br1 ?_) (fun q e2 g2 => br0 ?_)
  · have b2 := num_ok eb.2.1 e2
    have M2 := M1.z f2
    have F2 : FrI cellsTx h h2 := F1.trans (f2.mono cZ_V)
    simp only [e2] at hY hN
    intro x2 ex
    rw [g2] at ex
    rw [ex]
    have go : ¬ (tK n b p2 = 2 ∧ tV n b p2 = x) → f_X8_readsLine_J52 (nI k) (nI x) Q h2 := by
      intro z
      rw [if_neg z] at hY hN
      unfold f_X8_readsLine_J52
      have gS2 : gi h2 117 3 = nI (vS u) := M2.1.2.2.1
      rw [gS2]
      refine m_num (lo := 0) (hx := vS u) hn b2.2.2.1 hb (by omega) (by omega) (nI_pre (by omega)) t2 (fun y p3 e3 h3 t3 g3 f3 => br1 ?_) (fun q e3 g3 => br0 ?_)
      · have b3 := num_ok b2.2.2.1 e3
        simp only [e3] at hY hN
        rw [g3]
        have F3 : FrI cellsTx h h3 := F2.trans (f3.mono cZ_V)
        exact m_lno hn b3.2.2.1 hb t3 (M2.z f3) hL (fun p' u' e' h' t' m' f' => hY p' u' e' h' t' m' (F3.trans f')) (fun q e' h' u' g' m' x' f' => hN q e' h' u' g' m' x' (F3.trans f'))
      · simp only [e3] at hY hN
        exact hN q rfl h2 u g3 M2 Ext.rf F2
    rw [t2.1.2.2.1]
    refine ⟨fun z => ?_, fun z => go (fun q => z (kcd_n.mpr ⟨q.1, by omega⟩))⟩
    have zk := kcd_n.mp z
    rw [t2.1.2.2.2.2.2 zk.1 zk.2]
    refine br_eq (by omega) (by omega) (fun z2 => ?_) (fun z2 => go (fun q => z2 q.2))
    rw [if_pos ⟨zk.1, z2⟩] at hY hN
    exact hN _ rfl h2 u t2.1.2.2.2.1 M2 Ext.rf F2
  · simp only [e2] at hY hN
    exact hN q rfl h1 u g2 M1 Ext.rf F1
theorem cd_all : cdF n b p = -2 ∨ cdF n b p = -1 ∨ cdF n b p = 0 ∨ cdF n b p = 1 ∨ ∃ w, w < 16 ∧ cdF n b p = nI (10 + w) := by
  unfold cdF
  split
  · exact Or.inr (Or.inl rfl)
  · split
    · exact Or.inr (Or.inr (Or.inl rfl))
    · split
      · split
        · exact Or.inr (Or.inr (Or.inr (Or.inl rfl)))
        · exact Or.inl rfl
      · split
        · rcases wl_low (b := b) (P := tP n b p) (E := tE n b p) 16 (Nat.le_refl _) with e | ⟨w, hw, e⟩
          · exact Or.inl e
          · exact Or.inr (Or.inr (Or.inr (Or.inr ⟨w, hw, e⟩)))
        · exact Or.inl rfl
theorem cd_sub : ((cdF n b p - 10).toInt < 0 ∧ ∀ w, w < 16 → ¬ wmt n b p w) ∨ ∃ w, w < 16 ∧ wmt n b p w ∧ cdF n b p - 10 = nI w := by
  have no : ∀ c : Int32, cdF n b p = c → (∀ w, w < 16 → c ≠ nI (10 + w)) → ∀ w, w < 16 → ¬ wmt n b p w := by
    intro c ec hc w hw z
    have := (kcd_w hw).mpr z
    rw [ec, lit 10, nI_add] at this
    exact hc w hw this
  rcases cd_all (n := n) (b := b) (p := p) with e | e | e | e | ⟨w, hw, e⟩
  · exact Or.inl ⟨by rw [e]; decide, no _ e (fun w hw => m2_ne (by omega))⟩
  · exact Or.inl ⟨by rw [e]; decide, no _ e (fun w hw => m1_ne (by omega))⟩
  · refine Or.inl ⟨by rw [e]; decide, no _ e (fun w hw q => ?_)⟩
    have := (nI_eq (a := 0) (by omega) (by omega)).mp q
    omega
  · refine Or.inl ⟨by rw [e]; decide, no _ e (fun w hw q => ?_)⟩
    have := (nI_eq (a := 1) (by omega) (by omega)).mp q
    omega
  · refine Or.inr ⟨w, hw, (kcd_w hw).mp (by rw [e, lit 10, nI_add]), ?_⟩
    rw [e, lit 10, nI_sub (by omega), show 10 + w - 10 = w by omega]
theorem m_item {Q : Int32 → HP → Prop} (hn : n ≤ 120) (hp : p ≤ n) (hb : ∀ i, i < n → 0 ≤ (b i).toInt) (hT : TR n b p h) (hM : HM u h) (hS : vS u ≤ 6) (hL : vL u ≤ 10) (hY : ∀ p' u', itF n b p u = .ok (p', u') → ∀ h', TR n b p' h' → HM u' h' → FrI cellsTx h h' → Q 1 h') (hN : ∀ q, itF n b p u = .error q → ∀ h' u', gi h' 117 28 = nI q → HM u' h' → Ext u u' → FrI cellsTx h h' → Q 0 h') : f_X8_readsItem h Q := by
  unfold f_X8_readsItem
  intro x1 e1
  rw [hT.1.2.2.1] at e1
  have fl : itF n b p u = .error (tP n b p) → Q 0 h := fun e => hN _ e h u hT.1.2.2.2.1 hM Ext.rf FrI.rf
  rcases cd_sub (n := n) (b := b) (p := p) with ⟨ng, no⟩ | ⟨w, hw, z, ew⟩
  · rw [← e1] at ng
    refine m_in (a := 0) (b := 3) rfl rfl (fun q => absurd q.1 (by omega)) (fun _ => br0 ?_)
    refine m_in (a := 4) (b := 9) rfl rfl (fun q => absurd q.1 (by omega)) (fun _ => br0 ?_)
    exact fl (it_no (fun w hw => no w (by omega)))
  · rw [ew] at e1
    rw [e1]
    refine m_in (a := 0) (b := 3) rfl rfl (fun q => br1 ?_) (fun q => br0 ?_)
    · have l4 : w < 4 := by
        have := q.2
        rw [nI_toInt (by omega)] at this
        omega
      have e := it_w (u := u) (by omega : w < 10) z
      unfold itW at e
      rw [if_pos l4] at e
      by_cases z2 : vS u < 6
      · rw [if_pos z2] at e
        rw [e] at hY hN
        exact m_stn hn hp hb hT hM z2 hY hN
      · rw [if_neg z2] at e
        unfold f_X8_readsStation
        rw [hM.1.2.2.1]
        exact br_eq (b := 6) (by omega) (by omega) (fun _ => fl e) (fun q => by omega)
    · have l4 : 4 ≤ w := by
        apply Decidable.byContradiction
        intro z3
        refine q ⟨?_, ?_⟩
        · rw [nI_toInt (by omega)]; omega
        · rw [nI_toInt (by omega)]; omega
      refine m_in (a := 4) (b := 9) rfl rfl (fun q2 => br1 ?_) (fun q2 => br0 ?_)
      · have l9 : w < 10 := by
          have := q2.2
          rw [nI_toInt (by omega)] at this
          omega
        have e := it_w (u := u) l9 z
        unfold itW at e
        rw [if_neg (by omega)] at e
        rw [show nI w - 4 = nI (w - 4) by rw [lit 4, nI_sub l4]]
        by_cases z2 : vL u < 10
        · rw [if_pos z2] at e
          rw [e] at hY hN
          exact m_lin hn hp hb hT hM hS z2 (fun p' u' e' h' t' m' f' => br1 (hY p' u' e' h' t' m' f')) (fun q e' h' u' g' m' x' f' => br0 (hN q e' h' u' g' m' x' f'))
        · rw [if_neg z2] at e
          unfold f_X8_readsLine
          rw [hM.1.2.2.2]
          exact br_eq (b := 10) (by omega) (by omega) (fun _ => br0 (fl e)) (fun q => by omega)
      · refine fl (it_no (fun w' hw' z' => ?_))
        have := wm_one (by omega) (by omega) z.2 z'.2
        refine q2 ⟨?_, ?_⟩
        · rw [nI_toInt (by omega)]; omega
        · rw [nI_toInt (by omega)]; omega
end Tok
