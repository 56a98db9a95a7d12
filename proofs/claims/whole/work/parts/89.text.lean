/-! text -/
noncomputable def txF (n : Nat) (b : Nat → Int32) : Nat → Nat → Nat → WV → Except Nat (Nat × WV)
  | 0, _, _, _ => .error 0
  | f + 1, p, c, u => match itF n b p u with
    | .error q => .error q
    | .ok (p', u') => if tK n b p' = 0 then .ok (c + 1, u') else if tK n b p' = 3 then txF n b f (tE n b p') (c + 1) u' else .error (tP n b p')
noncomputable def o_text (σ : ST) : Int32 × ST := match txF (sTn σ) (sTb σ) 61 0 0 (sV σ) with
  | .error q => ((-1 : Int32) - nI q, uT σ 0 (sTb σ))
  | .ok (c, u) => (nI c, uV (uT σ 0 (sTb σ)) u)
theorem tx_all {n : Nat} {b : Nat → Int32} : ∀ f p c u, p ≤ n → vS u ≤ 6 → vL u ≤ 10 → (∀ c' u', txF n b f p c u = .ok (c', u') → vS u ≤ vS u' ∧ vS u' ≤ 6 ∧ vL u' ≤ 10 ∧ Ext u u' ∧ ∀ B, WF 99 B u → B + 1100 * (7 - vS u) ≤ 4000000 → WF 99 (B + 1100 * (vS u' - vS u)) u') := by
  intro f
  induction f with
  | zero => intro p c u hp hS hL c' u' e; unfold txF at e; exact absurd e (by simp)
  | succ f ih =>
    intro p c u hp hS hL c' u' e
    unfold txF at e
    have a := it_all (b := b) hp hS hL
    cases e1 : itF n b p u with
    | error q => simp [e1] at e
    | ok r =>
      obtain ⟨p1, u1⟩ := r
      have a1 := a.1 p1 u1 e1
      have eb := tE_b (b := b) a1.2.1
      simp only [e1] at e
      by_cases k0 : tK n b p1 = 0
      · rw [if_pos k0] at e
        injection e with e
        injection e with ea ec
        rw [← ec]
        exact ⟨a1.2.2.2.2.1, a1.2.2.1, a1.2.2.2.1, a1.2.2.2.2.2.1, fun B hB hl => a1.2.2.2.2.2.2 B hB (by omega)⟩
      · rw [if_neg k0] at e
        by_cases k3 : tK n b p1 = 3
        · rw [if_pos k3] at e
          have i := ih (tE n b p1) (c + 1) u1 eb.2.1 a1.2.2.1 a1.2.2.2.1 c' u' e
          refine ⟨by omega, i.2.1, i.2.2.1, a1.2.2.2.2.2.1.trans i.2.2.2.1, fun B hB hl => ?_⟩
          have w := i.2.2.2.2 _ (a1.2.2.2.2.2.2 B hB (by omega)) (by omega)
          rw [show B + 1100 * (vS u1 - vS u) + 1100 * (vS u' - vS u1) = B + 1100 * (vS u' - vS u) by omega] at w
          exact w
        · rw [if_neg k3] at e
          exact absurd e (by simp)
section Ops
variable {c : Nat} {σ : ST} {h : HP} {Q : Int32 → HP → Prop}
theorem WS_text (hW : WS c σ) (hc : c < 512) : WS (c + 1) (o_text σ).2 := by
  have hs := hW.small
  unfold o_text
  cases e : txF (sTn σ) (sTb σ) 61 0 0 (sV σ) with
  | error q => exact (WS_wipe hW).up (Nat.le_succ c) hc
  | ok r =>
    obtain ⟨k, u⟩ := r
    have a := tx_all 61 0 0 (sV σ) (Nat.zero_le _) hs.1 hs.2.1 k u e
    refine WS_V (WS_wipe hW) hc (WF_up (a.2.2.2.2 _ hW.2.1.1 (by omega)) (by omega) (by omega)) ?_
    rw [a.2.2.2.1.1.1]; exact hW.2.1.2
abbrev cellsU1 : Nat → Nat → Prop := fun a k => (59 ≤ a ∧ a < 88) ∨ (a = 105 ∧ 1 ≤ k ∧ k ≤ 6)
theorem CI.tx {h' : HP} (hI : CI σ h) (hW : WS c σ) (f : FrI cellsU1 h h') (g : gi h' 105 1 = 0) : CI (uT σ 0 (sTb σ)) h' := by
  obtain ⟨a, ⟨b1, b2⟩, c', ⟨d1, d2⟩, e⟩ := hI
  have hs := hW.small
  refine ⟨a.frame f (by intro a k h1 h2; simp only [cellsU1]; omega) hs.1 hs.2.1, ⟨by rw [f.1 _ _ (by simp only [cellsU1]; omega)]; exact b1, fun k1 => (b2 k1).frame f (by intro a k h1 h2; simp only [cellsU1]; omega) (hs.2.2 k1).1 (hs.2.2 k1).2⟩, fun k hk => by rw [f.1 _ _ (by simp only [cellsU1]; omega)]; exact c' k hk, ⟨g, fun i hi => absurd (show i < 0 from hi) (by omega)⟩, fun s hs => ?_⟩
  rw [f.1 _ _ (by simp only [cellsU1]; omega), f.1 _ _ (by simp only [cellsU1]; omega)]
  exact ⟨(e s hs).1, (e s hs).2.1, fun i hi => by rw [f.2.1]; exact (e s hs).2.2 i hi⟩
theorem c_text (hW : WS c σ) (hI : CI σ h) (hQ : ∀ h', CI (o_text σ).2 h' → LoF h h' → Q (o_text σ).1 h') : f_X7_text h Q := by
  have hs := hW.small
  have hF := hW.2.1.1
  have hn := hW.2.2.2.2.1.1
  unfold f_X7_text
  unfold o_text at hQ
  refine c_become (a := 59) (b := 1) hF hI.1 (Or.inr (by omega)) (fun h1 c1 f1 => ?_)
  unfold f_X5_start
  intro h2 e2 h3 e3
  have f3 : FrI cellsW h1 h3 := by
    have x : FrI cellsW h1 h2 := by rw [e2]; exact FrI.si ⟨rfl, by omega, by omega⟩
    have y : FrI cellsW h2 h3 := by rw [e3]; exact FrI.si ⟨rfl, by omega, by omega⟩
    exact x.trans y
  have F3 : FrI cellsU h h3 := (f1.mono cC_U).trans (f3.mono cW_U)
  have g1 : gi h3 105 1 = nI (sTn σ) := by rw [F3.1 _ _ (by simp only [cellsU]; omega)]; exact hI.2.2.2.1.1
  have gt : ∀ i, i < sTn σ → gi h3 106 i = sTb σ i := fun i hi => by rw [F3.1 _ _ (by simp only [cellsU]; omega)]; exact hI.2.2.2.1.2 i hi
  have g2 : gi h3 105 2 = -1 := by rw [e3, gi_si, if_neg (by omega), e2, gi_si, if_pos ⟨rfl, rfl⟩]
  have g5 : gi h3 105 5 = nI 0 := by rw [e3, gi_si, if_pos ⟨rfl, rfl⟩]; rfl
  generalize eN : sTn σ = n at *
  generalize eB : sTb σ = b at *
  refine c_readToken (p := 0) hn (Nat.zero_le _) g1 gt g5 (fun h4 t4 f4 => ?_)
  have T4 : TG n b 0 h4 := ⟨t4, by rw [f4.1 _ _ (by simp only [cellsK]; omega)]; exact g2⟩
  have f4' : FrI cellsW h3 h4 := f4.mono (by intro a k; simp only [cellsK, cellsW]; omega)
  have C4 : HC 59 (sV σ) h4 := (c1.w59 f3 hs.1 hs.2.1).w59 f4' hs.1 hs.2.1
  have F4 : FrI cellsU h h4 := F3.trans (f4'.mono cW_U)
  have U1 : ∀ a k, cellsU a k → cellsU1 a k := by intro a k; simp only [cellsU, cellsU1]; omega
  -- the end
  have endG : ∀ c' u' g, txF n b 61 0 0 (sV σ) = .ok (c', u') → gi g 105 2 = -1 → HC 59 u' g → FrI cellsU h g → f_X7_text_J62 (nI c') Q g := by
    intro c' u' g et g2 gC gf
    have a := tx_all 61 0 0 (sV σ) (Nat.zero_le _) hs.1 hs.2.1 c' u' et
    simp only [et] at hQ
    unfold f_X7_text_J62
    intro h12 e12
    have f12 : FrI cellsU1 h h12 := (gf.mono U1).trans (by rw [e12]; exact FrI.si (Or.inr ⟨rfl, by omega, by omega⟩))
    have I12 := hI.tx hW f12 (by rw [e12, gi_si, if_pos ⟨rfl, rfl⟩])
    have q2 : gi h12 105 2 = -1 := by rw [e12, gi_si, if_neg (by omega)]; exact g2
    rw [q2]
    refine ⟨fun _ => ?_, fun q => absurd (by decide) q⟩
    have w := a.2.2.2.2 _ hF (by have := hW.1; omega)
    have x12 : FrI (fun a _ => a = 105) g h12 := by rw [e12]; exact FrI.si rfl
    have C12 : HC 59 u' h12 := gC.frame x12 (by intro a k h1 h2; omega) a.2.1 a.2.2.1
    refine c_become (a := 1) (b := 59) w C12 (Or.inl (by omega)) (fun h14 c14 f14 => ?_)
    rw [eB] at I12
    refine hQ h14 (I12.world (WS_wipe hW |> fun x => by rw [eB] at x; exact x) c14 f14) ((f12.lo (by intro a k; simp only [cellsU1]; omega)).trans (f14.lo (by intro a k; simp only [cellsC]; omega)))
  have endB : ∀ q (x : Int32) g, txF n b 61 0 0 (sV σ) = .error q → q ≤ 120 → gi g 105 2 = nI q → FrI cellsU h g → f_X7_text_J62 x Q g := by
    intro q x g et hq g2 gf
    simp only [et] at hQ
    unfold f_X7_text_J62
    intro h12 e12
    have f12 : FrI cellsU1 h h12 := (gf.mono U1).trans (by rw [e12]; exact FrI.si (Or.inr ⟨rfl, by omega, by omega⟩))
    have I12 := hI.tx hW f12 (by rw [e12, gi_si, if_pos ⟨rfl, rfl⟩])
    rw [eB] at I12
    have q2 : gi h12 105 2 = nI q := by rw [e12, gi_si, if_neg (by omega)]; exact g2
    rw [q2]
    exact ⟨fun z => absurd z (lt0_nI (by omega)), fun _ => hQ h12 I12 (f12.lo (by intro a k; simp only [cellsU1]; omega))⟩
  -- the items
  have stop : ∀ f (x y : Int32) g, f_X7_text_J62 x Q g → f_X7_text_L24 (fun x1_10 h11 => f_X7_text_J62 x1_10 Q h11) Q (f + 1) x 0 y g := by
    intro f x y g q
    unfold f_X7_text_L24
    exact ⟨fun _ => q, fun _ => ⟨fun _ => q, fun z => absurd rfl z⟩⟩
  have key : ∀ f k p u g, k + f = 61 → 2 * k ≤ p → p ≤ n → txF n b 61 0 0 (sV σ) = txF n b f p k u → TG n b p g → HC 59 u g → vS u ≤ 6 → vL u ≤ 10 → FrI cellsU h g → f_X7_text_L24 (fun x1_10 h11 => f_X7_text_J62 x1_10 Q h11) Q (f + 1) (nI k) 1 (nI k) g := by
    intro f
    induction f with
    | zero => intro k p u g hk hp2 hp; omega
    | succ f ih =>
      intro k p u g hk hp2 hp et T C hS hL F
      have al := it_all (b := b) hp hS hL
      have kl : ∀ p, tK n b p ≤ 4 := by
        intro p
        unfold tK
        have := kcF_pos (x := b (tP n b p))
        split <;> omega
      unfold txF at et
      unfold f_X7_text_L24
      refine br_le (a := 120) (by omega) (by omega) (fun z => by omega) (fun _ => br1 ?_)
      refine c_item hn hp T C hS hL (fun p' u' ei g1 t1 c1 f1 => ?_) (fun q ei g1 t1 f1 => ?_)
      · have a1 := al.1 p' u' ei
        have eb := tE_b (b := b) a1.2.1
        have tb := tP_b (b := b) a1.2.1
        simp only [ei] at et
        intro x ex
        rw [ex, nI_1]
        have F1 := F.trans f1
        unfold f_X5_takeSign
        rw [t1.2, t1.1.2.2.1]
        refine ⟨fun q => absurd q neg1, fun _ => ?_⟩
        refine br_eq (b := 0) (by have := kl p'; omega) (by omega) (fun z => ?_) (fun z => ?_)
        · rw [if_pos z] at et
          intro y ey
          exact stop f _ _ _ (endG _ u' g1 et t1.2 c1 F1)
        · rw [if_neg z] at et
          refine br_eq (b := 3) (by have := kl p'; omega) (by omega) (fun z3 => ?_) (fun z3 => ?_)
          · rw [if_pos z3] at et
            refine t1.next hn a1.2.1 (fun g2 t2 f2 => ?_)
            intro y ey
            rw [ey]
            have lt := eb.2.2 (by omega)
            exact ih (k + 1) (tE n b p') u' g2 (by omega) (by omega) eb.2.1 et t2 (c1.w59 f2 a1.2.2.1 a1.2.2.2.1) a1.2.2.1 a1.2.2.2.1 (F1.trans (f2.mono cW_U))
          · rw [if_neg z3] at et
            refine c_fail t1 (fun g2 t2 f2 => ?_)
            intro y ey
            exact stop f _ _ _ (endB _ _ g2 et (by omega) t2 (F1.trans (f2.mono cW_U)))
      · have q1 := al.2 q ei
        simp only [ei] at et
        intro x ex
        unfold f_X5_takeSign
        rw [t1]
        refine ⟨fun _ => ?_, fun z => absurd (nn0 (by omega)) z⟩
        intro y ey
        exact stop f _ _ _ (endB q _ g1 et (by omega) t1 (F.trans f1))
  exact ⟨_, key 61 0 0 (sV σ) h4 (by omega) (by omega) (Nat.zero_le _) rfl T4 C4 hs.1 hs.2.1 F4⟩
end Ops
