/-! text, the reference -/
section Ops
variable {c : Nat} {σ : ST} {h : HP} {Q : Int32 → HP → Prop}
abbrev cellsTy : Nat → Nat → Prop := fun a k => (a = 117 ∧ (k = 1 ∨ k = 2 ∨ k = 3 ∨ k = 7 ∨ (26 ≤ k ∧ k ≤ 32))) ∨ (119 ≤ a ∧ a ≤ 124)
theorem cX_Y : ∀ a k, cellsTx a k → cellsTy a k := by intro a k; simp only [cellsTx, cellsTy]; omega
theorem MI.tx {h' : HP} {v : WV} (hI : MI σ h) (hM : HM v h') (f : FrI cellsTy h h') (g : gi h' 117 26 = 0) : MI (uV (uT σ 0 (sTb σ)) v) h' := by
  obtain ⟨a, ⟨b1, b2⟩, c', ⟨d1, d2⟩, e⟩ := hI
  refine ⟨hM, ⟨by rw [f.1 _ _ (by simp only [cellsTy]; omega)]; exact b1, fun q => (b2 q).frame f (by intro k; simp only [cellsTy]; omega)⟩, fun j hj => by rw [f.1 _ _ (by simp only [cellsTy]; omega)]; exact c' j hj, ⟨g, fun i hi => absurd (show i < 0 from hi) (by omega)⟩, fun s hs => ?_⟩
  rw [f.1 _ _ (by simp only [cellsTy]; omega), f.1 _ _ (by simp only [cellsTy]; omega)]
  exact ⟨(e s hs).1, (e s hs).2.1, fun i hi => by rw [f.2.1]; exact (e s hs).2.2 i hi⟩
theorem HM.back {v u : WV} {h h' : HP} (hM : HM u h) (x : Ext v u) (hL : vL v ≤ 10) (g3 : gi h' 117 3 = nI (vS v)) (g7 : gi h' 117 7 = nI (vL v)) (f : ∀ a k, a ≠ 117 ∨ (k = 1 ∨ k = 2) → gi h' a k = gi h a k) : HM v h' := by
  obtain ⟨⟨a1, a2, a3, a4⟩, b, c, d, e, g⟩ := hM
  obtain ⟨⟨x1, x2, x3, x4⟩, x5, x6, x7, x8⟩ := x
  refine ⟨⟨?_, ?_, g3, g7⟩, fun s hs => ⟨?_, ?_, ?_⟩, fun l hl k hk => ?_, fun l hl => ?_, fun l hl k hk => ?_, fun l h1 h2 k hk => ?_⟩
  · rw [f _ _ (by omega), ← x1]; exact a1
  · rw [f _ _ (by omega), ← x2]; exact a2
  · rw [f _ _ (by omega), ← x5 s 0 hs]; exact (b s (by omega)).1
  · rw [f _ _ (by omega), ← x5 s 1 hs]; exact (b s (by omega)).2.1
  · rw [f _ _ (by omega), ← x5 s 2 hs]; exact (b s (by omega)).2.2
  · rw [f _ _ (by omega), ← x6 l k hl]; exact c l (by omega) k hk
  · rw [f _ _ (by omega), ← x6 l 8 hl]; exact d l (by omega)
  · rw [f _ _ (by omega), ← x7 l k hl]; exact e l (by omega) k hk
  · rw [f _ _ (by omega)]
    by_cases q : l < vL u
    · rw [e l q k hk, x8 l k h1 q]
    · exact g l (by omega) h2 k hk
theorem m_text (hW : WS c σ) (hI : MI σ h) (hD : WD h) (hQ : ∀ h', MI (o_text σ).2 h' → HiF h h' → Q (o_text σ).1 h') : f_X8_text h Q := by
  have hs := hW.small
  have hn := hW.2.2.2.2.1.1
  have hb : ∀ i, i < sTn σ → 0 ≤ (sTb σ i).toInt := fun i hi => (hW.2.2.2.2.1.2 i hi).1
  have ht := hI.2.2.2.1
  unfold f_X8_text
  unfold o_text at hQ
  intro x1 e1 x2 e2 h3 e3
  rw [hI.1.1.2.2.1] at e1
  rw [hI.1.1.2.2.2] at e2
  have f3 : FrI cellsQ h h3 := by rw [e3]; exact FrI.si ⟨rfl, by omega, by omega⟩
  have hi : ∀ {g}, FrI cellsTy h g → HiF h g := fun f => f.hi (by intro a k; simp only [cellsTy]; omega)
  have tx : ∀ {g v}, HM v g → FrI cellsTy h g → gi g 117 26 = 0 → MI (uV (uT σ 0 (sTb σ)) v) g := fun m f g => hI.tx m f g
  have bk : ∀ {g : HP}, MI (uV (uT σ 0 (sTb σ)) (sV σ)) g → MI (uT σ 0 (sTb σ)) g := fun m => m
  have g1 : gi h3 117 26 = nI (sTn σ) := by rw [f3.1 _ _ (by simp only [cellsQ]; omega)]; exact ht.1
  have gt : ∀ i, i < sTn σ → gi h3 138 i = sTb σ i := fun i hi => by rw [f3.1 _ _ (by simp only [cellsQ]; omega)]; exact ht.2 i hi
  generalize sTn σ = n at *
  generalize sTb σ = b at *
  have g5 : gi h3 117 27 = nI 0 := by rw [e3, gi_si, if_pos ⟨rfl, rfl⟩]; rfl
  have D3 : WD h3 := fun k hk => by rw [f3.1 _ _ (by simp only [cellsQ]; omega)]; exact hD k hk
  refine m_next (p := 0) hn (Nat.zero_le _) hb D3 g1 gt g5 (fun h4 t4 f4 => ?_)
  have T4 : TR n b 0 h4 := ⟨t4, fun k hk => by rw [f4.1 _ _ (by simp only [cellsQ]; omega)]; exact D3 k hk⟩
  have F4 : FrI cellsTx h h4 := (f3.mono cQ_V).trans (f4.mono cQ_V)
  have M4 : HM (sV σ) h4 := (hI.1.q f3).q f4
  have endG : ∀ c' u' g, txF n b 61 0 0 (sV σ) = .ok (c', u') → HM u' g → FrI cellsTx h g → f_X8_text_J73 x1 x2 (nI c') 1 Q g := by
    intro c' u' g et gM gf
    simp only [et] at hQ
    unfold f_X8_text_J73
    intro h17 e17
    have f17 : FrI cellsTy h h17 := (gf.mono cX_Y).trans (by rw [e17]; exact FrI.si (Or.inl ⟨rfl, by omega⟩))
    have x17 : FrI (fun a k => a = 117 ∧ k = 26) g h17 := by rw [e17]; exact FrI.si ⟨rfl, rfl⟩
    refine br1 (hQ h17 (tx (gM.frame x17 (by intro a k; simp only [cellsM]; omega)) f17 (by rw [e17, gi_si, if_pos ⟨rfl, rfl⟩])) (hi f17))
  have endB : ∀ q (y : Int32) g u', txF n b 61 0 0 (sV σ) = .error q → gi g 117 28 = nI q → HM u' g → Ext (sV σ) u' → FrI cellsTx h g → f_X8_text_J73 x1 x2 y 0 Q g := by
    intro q y g u' et g8 gM gx gf
    simp only [et] at hQ
    unfold f_X8_text_J73
    intro h17 e17
    refine br0 ?_
    intro h19 e19 h20 e20
    have f17 : FrI cellsTy g h17 := by rw [e17]; exact FrI.si (Or.inl ⟨rfl, by omega⟩)
    have f19 : FrI cellsTy h17 h19 := by rw [e19]; exact FrI.si (Or.inl ⟨rfl, by omega⟩)
    have f20 : FrI cellsTy h19 h20 := by rw [e20]; exact FrI.si (Or.inl ⟨rfl, by omega⟩)
    have F20 : FrI cellsTy h h20 := (gf.mono cX_Y).trans ((f17.trans f19).trans f20)
    have up : ∀ a k, gi h20 a k = if a = 117 ∧ k = 7 then x2 else if a = 117 ∧ k = 3 then x1 else if a = 117 ∧ k = 26 then 0 else gi g a k := by
      intro a k; rw [e20, gi_si, e19, gi_si, e17, gi_si]
    have q8 : gi h20 117 28 = nI q := by rw [up, if_neg (by omega), if_neg (by omega), if_neg (by omega)]; exact g8
    rw [q8]
    have M20 : HM (sV σ) h20 := gM.back gx hs.2.1 (by rw [up, if_neg (by omega), if_pos ⟨rfl, rfl⟩]; exact e1) (by rw [up, if_pos ⟨rfl, rfl⟩]; exact e2) (fun a k z => by rw [up, if_neg (by omega), if_neg (by omega), if_neg (by omega)])
    exact hQ h20 (bk (tx M20 F20 (by rw [up, if_neg (by omega), if_neg (by omega), if_pos ⟨rfl, rfl⟩]))) (hi F20)
  have key : ∀ f k p u g, k + f = 61 → 2 * k ≤ p → p ≤ n → txF n b 61 0 0 (sV σ) = txF n b f p k u → TR n b p g → HM u g → vS u ≤ 6 → vL u ≤ 10 → Ext (sV σ) u → FrI cellsTx h g → ∀ K : Int32 → HP → Prop, (∀ v hh, (∀ y : Int32, y = nI (k + 1) → f_X8_text_L27 x1 x2 (fun x3_13 x4_14 h15 => f_X8_text_J55 x1 x2 x3_13 x4_14 Q h15) Q f y v hh) → K v hh) → f_X8_readsItem g K := by
    intro f
    induction f with
    | zero => intro k p u g hk hp2 hp; omega
    | succ f ih =>
      intro k p u g hk hp2 hp et T M hS hL X F K hK
      have al := it_all (b := b) hp hS hL
      unfold txF at et
      refine m_item hn hp hb T M hS hL (fun p' u' ei g1 t1 m1 f1 => hK _ _ (fun y ey => ?_)) (fun q ei g1 u' g8 m1 x' f1 => hK _ _ (fun y ey => ?_))
      · have a1 := al.1 p' u' ei
        have eb := tE_b (b := b) a1.2.1
        have tb := tP_b (b := b) a1.2.1
        simp only [ei] at et
        have F1 := F.trans f1
        have X1 := X.trans a1.2.2.2.2.2.1
        rw [ey]
        unfold f_X8_text_L27
        refine br1 ?_
        rw [t1.1.2.2.1]
        refine ⟨fun z => ?_, fun z => ?_⟩
        · have k3 := kcd_s.mp z
          rw [if_neg (by omega), if_pos k3] at et
          refine t1.next hn a1.2.1 hb (fun g2 t2 f2 => ?_)
          have lt := eb.2.2 (by omega)
          refine ih (k + 1) (tE n b p') u' g2 (by omega) (by omega) eb.2.1 et t2 (m1.q f2) a1.2.2.1 a1.2.2.2.1 X1 (F1.trans (f2.mono cQ_V)) _ (fun v hh hv y ey => hv y ?_)
          rw [ey, nI_1]
        · have k3 : tK n b p' ≠ 3 := fun q => z (kcd_s.mpr q)
          unfold f_X8_text_J55
          refine br1 ?_
          rw [t1.1.2.2.1]
          refine ⟨fun z2 => ?_, fun z2 => ?_⟩
          · have k0 := kcd_e.mp z2
            rw [if_pos k0] at et
            exact endG _ u' g1 et m1 F1
          · have k0 : tK n b p' ≠ 0 := fun q => z2 (kcd_e.mpr q)
            rw [if_neg k0, if_neg k3] at et
            exact endB _ _ g1 u' et t1.1.2.2.2.1 m1 X1 F1
      · simp only [ei] at et
        unfold f_X8_text_L27
        refine br0 ?_
        unfold f_X8_text_J55
        exact br0 (endB q _ g1 u' et g8 m1 (X.trans x') (F.trans f1))
  exact key 61 0 0 (sV σ) h4 (by omega) (by omega) (Nat.zero_le _) rfl T4 M4 hs.1 hs.2.1 Ext.rf F4 _ (fun v hh hv => ⟨61, hv _ rfl⟩)
end Ops
