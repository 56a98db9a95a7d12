/-! a way is gone; all that can be is brought -/
def bi (a b : Nat) : Int := if a = b then 1 else 0
section Br
variable {v : WV} {R : Nat → Nat → Nat} {g n m B : Nat} {f : Nat → Nat} {σ : SB} {h : HP}
theorem dl_bi {N : NW} {a w : Nat} : dl N a w = bi (nH N a) w - bi (nT N a) w := rfl
theorem SIh.fr {P : Nat → Nat → Prop} {h' : HP} (hh : SIh v σ h) (hf : FrI P h h') (hd : ∀ a k, cellsB a k → ¬ P a k) : SIh v σ h' := by
  refine ⟨fun p hp => ?_, fun k hk => ?_, ?_⟩
  · rw [hf.1 _ _ (hd _ _ (Or.inl rfl))]; exact hh.1 p hp
  · rw [hf.1 _ _ (hd _ _ (Or.inr (Or.inl rfl)))]; exact hh.2.1 k hk
  · rw [hf.1 _ _ (hd _ _ (Or.inr (Or.inr ⟨rfl, rfl⟩)))]; exact hh.2.2
theorem m_L181 {k217 : HP → Prop} {Q : Int32 → HP → Prop} {x1 x2 x3 : Int32} {p K x : Nat} {f1 : Nat → Nat} (hF : WF m B v) (hn : n ≤ 24) (hfB : fB R f) (hM : HM v h) (hv : SIv v R g n f σ) (hh : SIh v σ h) (hw : Way v σ p K)
    (hx : ∀ j, j < K → x ≤ lfO v R g n f (bB σ (itP σ p j)) (itP σ p j) (itP σ p (j + 1)))
    (hR1 : RS v R f1 h) (hc1 : ∀ a, a < 550 → f1 a ≤ nC (tn v R g n) a) (hu1 : ∀ j, j < K → f1 (wyA σ p j) = f (wyA σ p j)) (he1 : ∀ w, w ≠ 151 → ex (tn v R g n) f1 w = ex (tn v R g n) f w + (x : Int) * (bi (ndp g (itP σ p K)) w + bi 150 w - bi (ndp g p) w)) (hb1 : ∀ a, f1 a ≤ 4000000)
    (hk : ∀ f2 h2, RS v R f2 h2 → FrI (fun a _ => a = 129 ∨ a = 130) h h2 → (∀ a, a < 550 → f2 a ≤ nC (tn v R g n) a) → (∀ w, w ≠ 151 → ex (tn v R g n) f2 w = ex (tn v R g n) f w + (x : Int) * bi 150 w) → (∀ a, f2 a ≤ 4000000) → k217 h2) : ∃ c, f_X8_brings_L181 x1 x2 x3 (nI x) k217 Q c (nI p) h := by
  have h6 := hF.1
  have key := loop_up (L := fun c k => ∀ f2 h2, RS v R f2 h2 → FrI (fun a _ => a = 129 ∨ a = 130) h h2 → (∀ a, a < 550 → f2 a ≤ nC (tn v R g n) a) → (∀ j, k ≤ j → j < K → f2 (wyA σ p j) = f (wyA σ p j)) → (∀ w, w ≠ 151 → ex (tn v R g n) f2 w = ex (tn v R g n) f w + (x : Int) * (bi (ndp g (itP σ p K)) w + bi 150 w - bi (ndp g (itP σ p k)) w)) → (∀ a, f2 a ≤ 4000000) → f_X8_brings_L181 x1 x2 x3 (nI x) k217 Q c (nI (itP σ p k)) h2) K 0 (by omega) (fun c f2 h2 k1 k2 k3 k4 k5 k6 => ?_) (fun k c _ hk' ih f2 h2 k1 k2 k3 k4 k5 k6 => ?_)
  · obtain ⟨c, hc⟩ := key
    exact ⟨c, hc f1 h hR1 FrI.rf hc1 (fun j _ hj => hu1 j hj) he1 hb1⟩
  · unfold f_X8_brings_L181
    have a1 := hw.1 K (Nat.le_refl _)
    have hh2 := hh.fr k2 (by intro a k; simp only [cellsB]; omega)
    rw [ix_nI (by omega), hh2.1 _ a1.1, hw.2.2]
    refine ⟨vp_in_nI (by omega) (by decide), ⟨fun _ => hk f2 h2 k1 k2 k3 (fun w hw' => ?_) k6, fun z => absurd rfl z⟩⟩
    rw [k5 w hw']
    congr 2
    omega
  · unfold f_X8_brings_L181
    have a1 := hw.1 k (by omega)
    have a2 := hw.1 (k + 1) (by omega)
    have b1 := hv.1 _ a1.1 a1.2
    have st := (way_step hv hw hk').2
    have ar := way_arc hF hn hv hw hk'
    have hh2 := hh.fr k2 (by intro a k; simp only [cellsB]; omega)
    have hM2 : HM v h2 := hM.frame k2 (by intro a k; simp only [cellsM]; omega)
    have ek := k4 k (Nat.le_refl _) hk'
    have hxk := hx k hk'
    rw [ix_nI (by omega), hh2.1 _ a1.1]
    refine ⟨vp_in_nI (by omega) (by decide), ?_⟩
    refine br_eq (b := 1) (by omega) (by omega) (fun z => absurd z (hw.2.1 k hk')) (fun _ => ?_)
    refine m_behind hF hn hM2 k1 a1.1 (hh2.1 _ a1.1) st ?_
    have t2 := tnC_le (g := g) (n := n) hF hfB.1 ar.1
    unfold lfO at hxk
    refine m_moves hF hn k1 a1.1 a2.1 (hh2.1 _ a1.1) st (fun q => ?_) (fun h3 j1 j2 => ?_)
    · rw [if_pos q] at hxk
      have : f2 (arO (bB σ (itP σ p k)) (itP σ p k) (itP σ p (k + 1))) = f (arO (bB σ (itP σ p k)) (itP σ p k) (itP σ p (k + 1))) := ek
      omega
    · have main : ∃ y, mvO f2 (bB σ (itP σ p k)) (itP σ p k) (itP σ p (k + 1)) x = upN f2 (wyA σ p k) y ∧ y ≤ nC (tn v R g n) (wyA σ p k) ∧ y ≤ 4000000 ∧ ∀ w, ((y : Int) - (f2 (wyA σ p k) : Int)) * dl (tn v R g n) (wyA σ p k) w = (x : Int) * (bi (ndp g (itP σ p k)) w - bi (ndp g (itP σ p (k + 1))) w) := by
        have hc := k3 _ ar.1
        have h4 := k6 (wyA σ p k)
        have ek' : f2 (wyA σ p k) = f (wyA σ p k) := ek
        rcases ar.2 with ⟨q1, q2, q3, q4⟩ | ⟨q1, q2, q3, q4⟩
        · rw [if_pos q1] at hxk
          have hxk' : x ≤ f (wyA σ p k) := hxk
          refine ⟨f2 (wyA σ p k) - x, by unfold mvO; rw [if_pos q1], by omega, by omega, fun w => ?_⟩
          rw [dl_bi, q3, q4, show ((f2 (wyA σ p k) - x : Nat) : Int) - (f2 (wyA σ p k) : Int) = -(x : Int) by omega, Int.neg_mul, ← Int.mul_neg]
          congr 1; omega
        · rw [if_neg q1] at hxk
          have hxk' : x ≤ nC (tn v R g n) (wyA σ p k) - f (wyA σ p k) := hxk
          refine ⟨f2 (wyA σ p k) + x, by unfold mvO; rw [if_neg q1], by omega, by omega, fun w => ?_⟩
          rw [dl_bi, q3, q4, show ((f2 (wyA σ p k) + x : Nat) : Int) - (f2 (wyA σ p k) : Int) = (x : Int) by omega]
      obtain ⟨y, y1, y2, y3, y4⟩ := main
      rw [y1] at j1
      refine ih (upN f2 (wyA σ p k) y) h3 j1 (k2.trans j2) (fun a ha => ?_) (fun j hj1 hj2 => ?_) (fun w hw' => ?_) (fun a => ?_)
      · by_cases e : a = wyA σ p k
        · rw [e, upN_eq]; exact y2
        · rw [upN_ne e]; exact k3 a ha
      · rw [upN_ne (fun z => way_inj hF hn hv hw (i := k) (j := j) (by omega) hj2 z.symm)]
        exact k4 j (by omega) hj2
      · rw [ex_up ar.1, y4, k5 w hw', Int.add_assoc, ← Int.mul_add]
        congr 2
        omega
      · by_cases e : a = wyA σ p k
        · rw [e, upN_eq]; exact y3
        · rw [upN_ne e]; exact k6 a
/-- what a search that found nothing shows -/
def Done (v : WV) (R : Nat → Nat → Nat) (g n : Nat) (f : Nat → Nat) (σ : SB) : Prop := Fin1 v g n f σ ∧ ∀ p, p < 25 * vS v → bB σ p ≠ 0 → Out v R g n f σ p
def Hit (v : WV) (R : Nat → Nat → Nat) (g n : Nat) (f : Nat → Nat) (σ : SB) (e : Int32) : Prop := ∃ p l, e = nI (10 * p + l) ∧ p < 25 * vS v ∧ bB σ p ≠ 0 ∧ l < vL v ∧ vl v l 1 = p / 25 ∧ vl v l 2 = g ∧ p % 25 + takesL v l ≤ n ∧ f (300 + (25 * l + p % 25)) < R l (p % 25)
theorem brings_loop {Q : Int32 → HP → Prop} {V : Nat} (hF : WF m B v) (hg : g < vS v) (hn : n ≤ 24) (hM : HM v h)
    (hQ : ∀ x f' σ' h', Flw (tn v R g n) 151 150 f' → fB R f' → ex (tn v R g n) f' 150 = ((V + x : Nat) : Int) → RS v R f' h' → SIv v R g n f' σ' → SIh v σ' h' → Done v R g n f' σ' → FrI cellsG h h' → Q (nI x) h') :
    ∀ k f1 x σ1 h1 e, Flw (tn v R g n) 151 150 f1 → fB R f1 → ex (tn v R g n) f1 150 = ((V + x : Nat) : Int) → RS v R f1 h1 → SIv v R g n f1 σ1 → SIh v σ1 h1 → ((e = -1 ∧ Done v R g n f1 σ1) ∨ Hit v R g n f1 σ1 e) → FrI cellsG h h1 → 600000001 ≤ V + x + k → f_X8_brings_L10 (nI g) (nI n) Q (k + 1) (nI x) e h1 := by
  have h6 := hF.1
  intro k
  induction k with
  | zero =>
    intro f1 x σ1 h1 e q1 q2 q3 q4 q5 q6 q7 q8 q9
    have := val_le hF hn q1
    omega
  | succ k ih =>
    intro f1 x σ1 h1 e q1 q2 q3 q4 q5 q6 q7 q8 q9
    have hM1 : HM v h1 := hM.frame q8 (by intro a k; simp only [cellsM, cellsG, cellsB]; omega)
    unfold f_X8_brings_L10
    rcases q7 with ⟨rfl, q7⟩ | ⟨p, l, rfl, p1, p2, p3, p4, p5, p6, p7⟩
    · exact ⟨fun _ => hQ x f1 σ1 h1 q1 q2 q3 q4 q5 q6 q7 q8, fun z => absurd (by decide +kernel) z⟩
    · have hl := hF.2.2.1 l p3
      have ht := takesL_le hF p3
      refine br_lt (b := 0) (by omega) (by omega) (fun z => by omega) (fun _ => ?_)
      intro x5 e5 x6 e6
      rw [lit 10, nI_div (by omega) (by omega) (by omega), show (10 * p + l) / 10 = p by omega] at e5
      rw [e5, lit 10, nI_rem (by omega) (by omega) (by omega), show (10 * p + l) % 10 = l by omega, lit 25, nI_rem (by omega) (by omega) (by omega), nI_mul, nI_add] at e6
      rw [e5, e6]
      have r1 := q4.2.1 l p3 (p % 25) (by omega)
      have bR1 := q2.1 l (p % 25)
      have bf1 := q2.2 (300 + (25 * l + p % 25))
      rw [ix_nI (by omega), r1.1, r1.2, nI_sub (by omega)]
      refine ⟨vp_in_nI (by omega) (by decide), vp_in_nI (by omega) (by decide), ?_⟩
      intro x7 e7
      rw [e7]
      obtain ⟨K, w1⟩ := path_ex q5 _ p p1 p2 (Nat.lt_succ_self _)
      have hw : Way v σ1 p K := w1
      refine m_L59 hF hn q2 hM1 q4 q5 q6 hw (by omega) (by omega) (fun w j1 j2 j3 => ?_)
      have aK := hw.1 K (Nat.le_refl _)
      have bK := q5.1 _ aK.1 aK.2
      have sK : f1 (itP σ1 p K) < cmV v (itP σ1 p K / 25) (itP σ1 p K % 25) := by
        rcases bK.2.2.2.2.2 with z | z
        · exact z.2
        · exact absurd hw.2.2 z.1
      have cK := cmV_le hF (s := itP σ1 p K / 25) (i := itP σ1 p K % 25) (by omega)
      generalize eP : itP σ1 p K = pK at *
      have r2 := q4.2.2 (pK / 25) (by omega) (pK % 25) (by omega)
      rw [show 25 * (pK / 25) + pK % 25 = pK by omega] at r2
      have bf2 := q2.2 pK
      rw [ix_nI (by omega), r2.2.1, r2.2.2.1, nI_sub (by omega)]
      have vp : vp_in (nI pK) 150 := vp_in_nI (by omega) (by decide)
      refine ⟨vp, vp, fun _ => ⟨vp, vp⟩, ?_⟩
      intro x7b e7b
      obtain ⟨y, ey, y1, y2, y3⟩ : ∃ y : Nat, x7b = nI y ∧ 1 ≤ y ∧ y ≤ w ∧ y ≤ cmV v (pK / 25) (pK % 25) - f1 pK := by
        rw [e7b]
        by_cases z : w ≤ cmV v (pK / 25) (pK % 25) - f1 pK
        · exact ⟨w, by rw [if_pos ((nI_leI (by omega) (by omega)).mpr z)], by omega, by omega, z⟩
        · exact ⟨cmV v (pK / 25) (pK % 25) - f1 pK, by rw [if_neg (fun q => z ((nI_leI (by omega) (by omega)).mp q))], by omega, by omega, Nat.le_refl _⟩
      rw [ey, nI_add]
      refine ⟨vp, vp, ?_⟩
      intro h30 e30
      have R30 : RS v R (upN f1 pK (f1 pK + y)) h30 := by rw [e30]; exact q4.setU h6.2.1 (by omega)
      have g30 : gi h30 130 (25 * l + p % 25) = nI (f1 (300 + (25 * l + p % 25))) := by rw [e30, gi_si, if_neg (by omega)]; exact r1.2
      rw [g30, nI_add]
      refine ⟨vp_in_nI (by omega) (by decide), vp_in_nI (by omega) (by decide), ?_⟩
      intro h33 e33
      have R33 : RS v R (upN (upN f1 pK (f1 pK + y)) (300 + (25 * l + p % 25)) (f1 (300 + (25 * l + p % 25)) + y)) h33 := by rw [e33]; exact R30.setG h6.2.1
      have fr33 : FrI cellsG h1 h33 := by
        have a : FrI cellsG h1 h30 := by rw [e30]; exact FrI.si (Or.inl (by omega))
        have b : FrI cellsG h30 h33 := by rw [e33]; exact FrI.si (Or.inl (by omega))
        exact a.trans b
      have M33 : HM v h33 := hM1.frame fr33 (by intro a k; simp only [cellsM, cellsG, cellsB]; omega)
      have fr34 : FrI (fun a _ => a = 128 ∨ a = 130) h1 h33 := by
        have a : FrI (fun a _ => a = 128 ∨ a = 130) h1 h30 := by rw [e30]; exact FrI.si (Or.inl rfl)
        have b : FrI (fun a _ => a = 128 ∨ a = 130) h30 h33 := by rw [e33]; exact FrI.si (Or.inr rfl)
        exact a.trans b
      have S33 : SIh v σ1 h33 := q6.fr fr34 (by intro a k; simp only [cellsB]; omega)
      obtain ⟨c1, c2, c3⟩ := tn_s (v := v) (R := R) (g := g) (n := n) (s := pK / 25) (i := pK % 25) (by omega) (by omega)
      rw [show 25 * (pK / 25) + pK % 25 = pK by omega, if_pos ⟨by omega, bK.1, bK.2.1⟩] at c3
      rw [show 25 * (pK / 25) + pK % 25 = pK by omega] at c1 c2
      obtain ⟨d1, d2, d3⟩ := tn_l (v := v) (R := R) (g := g) (n := n) (l := l) (i := p % 25) (by omega)
      have hgp := (q5.1 p p1 p2).1
      rw [if_pos ⟨p3, by rw [p4]; exact hgp, p6⟩] at d3
      have up : ∀ a, upN (upN f1 pK (f1 pK + y)) (300 + (25 * l + p % 25)) (f1 (300 + (25 * l + p % 25)) + y) a = if a = 300 + (25 * l + p % 25) then f1 (300 + (25 * l + p % 25)) + y else if a = pK then f1 pK + y else f1 a := fun a => rfl
      refine m_L181 (x := y) (f := f1) hF hn q2 M33 q5 S33 hw (fun j hj => Nat.le_trans y2 (j3 j hj)) R33 (fun a ha => ?_) (fun j hj => ?_) (fun w' hw' => ?_) (fun a => ?_) (fun f2 h2 u1 u2 u3 u4 u5 => ?_)
      · rw [up]
        by_cases z : a = 300 + (25 * l + p % 25)
        · rw [if_pos z, z, d3]; omega
        · rw [if_neg z]
          by_cases z2 : a = pK
          · rw [if_pos z2, z2, c3]; omega
          · rw [if_neg z2]; exact q1.1 a ha
      · have ar := way_arc hF hn q5 hw hj
        have aj := hw.1 j (by omega)
        have aj2 := hw.1 (j + 1) (by omega)
        have bj := q5.1 _ aj.1 aj.2
        have bj2 := q5.1 _ aj2.1 aj2.2
        have n1 := ndp_lt (g := g) (p := itP σ1 p j) (by omega) bj.1
        have n2 := ndp_lt (g := g) (p := itP σ1 p (j + 1)) (by omega) bj2.1
        rw [up, if_neg (fun z => ?_), if_neg (fun z => ?_)]
        · rw [z] at ar
          rcases ar.2 with ⟨_, _, t1, _⟩ | ⟨_, _, t1, _⟩ <;> omega
        · rw [z] at ar
          unfold nd at d2
          rw [if_pos p5] at d2
          rcases ar.2 with ⟨_, _, _, t1⟩ | ⟨_, _, _, t1⟩ <;> omega
      · rw [eP, ex_up (by show 300 + (25 * l + p % 25) < 550; omega), ex_up (by show pK < 550; omega), upN_ne (by omega), dl_bi, dl_bi, c1, c2, d1, d2, p4, p5]
        have t1 : nd g g (p % 25 + takesL v l) = 150 := if_pos rfl
        have t2 : nd g (p / 25) (p % 25) = ndp g p := rfl
        have t3 : nd g (pK / 25) (pK % 25) = ndp g pK := rfl
        have t4 : bi 151 w' = 0 := if_neg (fun z => hw' z.symm)
        rw [t1, t2, t3, t4, show ((f1 pK + y : Nat) : Int) - (f1 pK : Int) = (y : Int) by omega, show ((f1 (300 + (25 * l + p % 25)) + y : Nat) : Int) - (f1 (300 + (25 * l + p % 25)) : Int) = (y : Int) by omega, Int.add_assoc, ← Int.mul_add]
        have t5 : (bi (ndp g pK) w' - 0 + (bi 150 w' - bi (ndp g p) w')) = (bi (ndp g pK) w' + bi 150 w' - bi (ndp g p) w') := by omega
        rw [t5]
      · rw [up]
        by_cases z : a = 300 + (25 * l + p % 25)
        · rw [if_pos z]; omega
        · rw [if_neg z]
          by_cases z2 : a = pK
          · rw [if_pos z2]; omega
          · rw [if_neg z2]; exact q2.2 a
      · intro x40 e40
        rw [nI_add] at e40
        rw [e40]
        have fl2 : Flw (tn v R g n) 151 150 f2 := ⟨u3, fun w h1 h2 => by rw [u4 w h1, q1.2 w h1 h2]; have : bi 150 w = 0 := if_neg (fun z => h2 z.symm)
                                                                         rw [this]; simp⟩
        have ex2 : ex (tn v R g n) f2 150 = ((V + (x + y) : Nat) : Int) := by
          rw [u4 150 (by omega), q3, show bi 150 150 = 1 from if_pos rfl]; omega
        have fr2 : FrI cellsG h h2 := (q8.trans fr33).trans (u2.mono (fun a _ z => Or.inl (by omega)))
        have M2 : HM v h2 := hM.frame fr2 (by intro a k; simp only [cellsM, cellsG, cellsB]; omega)
        have fB2 : fB R f2 := ⟨q2.1, u5⟩
        refine m_searches hF hg hn fB2 M2 u1 (fun σ2 h3 s1 s2 s3 s4 s5 => ?_) (fun p' l' σ2 h3 s1 s2 s3 s4 s5 s6 s7 s8 s9 s10 => ?_)
        · exact ih f2 (x + y) σ2 h3 (-1) fl2 fB2 ex2 (u1.fb s3) s1 s2 (Or.inl ⟨rfl, s4, s5⟩) (fr2.trans (s3.mono (fun a k z => Or.inr z))) (by omega)
        · exact ih f2 (x + y) σ2 h3 _ fl2 fB2 ex2 (u1.fb s3) s1 s2 (Or.inr ⟨p', l', rfl, s4, s5, s6, s7, s8, s9, s10⟩) (fr2.trans (s3.mono (fun a k z => Or.inr z))) (by omega)
theorem m_brings {Q : Int32 → HP → Prop} {V : Nat} (hF : WF m B v) (hg : g < vS v) (hn : n ≤ 24) (hfl : Flw (tn v R g n) 151 150 f) (hfB : fB R f) (hM : HM v h) (hR : RS v R f h) (hV : ex (tn v R g n) f 150 = (V : Int))
    (hQ : ∀ x f' σ' h', Flw (tn v R g n) 151 150 f' → fB R f' → ex (tn v R g n) f' 150 = ((V + x : Nat) : Int) → RS v R f' h' → SIv v R g n f' σ' → SIh v σ' h' → Done v R g n f' σ' → FrI cellsG h h' → Q (nI x) h') : f_X8_brings (nI g) (nI n) h Q := by
  unfold f_X8_brings
  refine m_searches hF hg hn hfB hM hR (fun σ2 h3 s1 s2 s3 s4 s5 => ?_) (fun p' l' σ2 h3 s1 s2 s3 s4 s5 s6 s7 s8 s9 s10 => ?_)
  · exact ⟨_, brings_loop (V := V) hF hg hn hM hQ 600000001 f 0 σ2 h3 (-1) hfl hfB hV (hR.fb s3) s1 s2 (Or.inl ⟨rfl, s4, s5⟩) (s3.mono (fun a k z => Or.inr z)) (by omega)⟩
  · exact ⟨_, brings_loop (V := V) hF hg hn hM hQ 600000001 f 0 σ2 h3 _ hfl hfB hV (hR.fb s3) s1 s2 (Or.inr ⟨p', l', rfl, s4, s5, s6, s7, s8, s9, s10⟩) (s3.mono (fun a k z => Or.inr z)) (by omega)⟩
end Br
