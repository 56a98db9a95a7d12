/-! flowBehind -/
abbrev cellsN : Nat → Nat → Prop := fun a k => (a = 88 ∧ 4 ≤ k ∧ k ≤ 6) ∨ (89 ≤ a ∧ a ≤ 97)
section Fb
variable {m B w : Nat} {v : WV} {R : Nat → Nat → Nat} {g : Nat} {hl : Int32} {ht : Nat} {h : HP} {Q : Int32 → HP → Prop}
theorem c_phases {A F : Nat} {en lf : Nat → Nat} (hA : AR (2 * A) (fun e => en (xr e)) en lf h) (hlb : ∀ e, e < 2 * A → lf e + lf (xr e) ≤ 4000000) (hfl : gi h 88 5 = nI F)
    (hQ : ∀ lf2 G lev h', AR (2 * A) (fun e => en (xr e)) en lf2 h' → LVS A en lf2 lev → lev 151 = 0 → (∀ w, w < 152 → gi h' 94 w = cd (lev w)) → (∀ e, e < 2 * A → lf2 e + lf2 (xr e) = lf e + lf (xr e)) → gi h' 88 5 = nI (F + G) → (∀ w, ex (NP A en lf2) (fP lf2) w = ex (NP A en lf) (fP lf) w + (G : Int) * (bi 150 w - bi 151 w)) → FrI cellsF h h' → Q (nI (F + G)) h') : ∃ f, f_X1_flowBehind_L43 Q f 0 h := by
  have hen : ∀ e, e < 2 * A → en e < 152 := fun e he => (hA.2.1 e he).2.1
  have key : ∀ r i, i + r = 151 → ∀ lf1 G h1, AR (2 * A) (fun e => en (xr e)) en lf1 h1 → (∀ e, e < 2 * A → lf1 e + lf1 (xr e) = lf e + lf (xr e)) → gi h1 88 5 = nI (F + G) → (∀ w, ex (NP A en lf1) (fP lf1) w = ex (NP A en lf) (fP lf) w + (G : Int) * (bi 150 w - bi 151 w)) → FrI cellsF h h1 → (∀ lev, LVS A en lf1 lev → lev 151 ≠ 0 → i + 2 ≤ lev 151) → f_X1_flowBehind_L43 Q (r + 1) (nI i) h1 := by
    intro r
    induction r with
    | zero =>
      intro i hi lf1 G h1 k1 k2 k3 k4 k5 k6
      unfold f_X1_flowBehind_L43
      refine br_le (a := 152) (by omega) (by omega) (fun z => by omega) (fun _ => ?_)
      refine c_findLevels k1 (fun e he => by have := k2 e he; have := hlb e he; omega) (fun lev h2 j1 j2 j3 => ?_)
      by_cases z : lev 151 = 0
      · rw [if_pos z]
        refine ⟨fun _ => ?_, fun q => absurd rfl q⟩
        have g5 : gi h2 88 5 = nI (F + G) := by rw [j3.1 _ _ (by simp only [cellsV]; omega)]; exact k3
        rw [g5]
        exact hQ lf1 G lev h2 (k1.fv j3) j1 z j2 k2 g5 k4 (k5.trans (j3.mono (fun a k q => by simp only [cellsV] at q; simp only [cellsF]; omega)))
      · have := k6 lev j1 z
        have := j1.2.1 151 (by omega)
        omega
    | succ r ih =>
      intro i hi lf1 G h1 k1 k2 k3 k4 k5 k6
      unfold f_X1_flowBehind_L43
      refine br_le (a := 152) (by omega) (by omega) (fun z => by omega) (fun _ => ?_)
      refine c_findLevels k1 (fun e he => by have := k2 e he; have := hlb e he; omega) (fun lev h2 j1 j2 j3 => ?_)
      have g5 : gi h2 88 5 = nI (F + G) := by rw [j3.1 _ _ (by simp only [cellsV]; omega)]; exact k3
      have fr2 : FrI cellsF h h2 := k5.trans (j3.mono (fun a k q => by simp only [cellsV] at q; simp only [cellsF]; omega))
      by_cases z : lev 151 = 0
      · rw [if_pos z]
        refine ⟨fun _ => ?_, fun q => absurd rfl q⟩
        rw [g5]
        exact hQ lf1 G lev h2 (k1.fv j3) j1 z j2 k2 g5 k4 fr2
      · rw [if_neg z]
        refine ⟨fun q => absurd q n10, fun _ => ?_⟩
        refine c_fill (k1.fv j3) j2 j1 z (fun e he => by rw [k2 e he]; exact hlb e he) g5 (fun lf2 G2 h3 i1 i2 i3 i4 i5 i6 => ?_)
        intro x ex
        rw [ex, nI_1]
        refine ih (i + 1) (by omega) lf2 (G + G2) h3 i1 (fun e he => (i3 e he).trans (k2 e he)) (by rw [i4, Nat.add_assoc]) (fun w => ?_) (fr2.trans i6) (fun lev1 l1 l2 => ?_)
        · rw [i5 w, k4 w, Int.add_assoc, ← Int.add_mul]
          congr 2
        · have a1 := blk_up hen j1 z i2 l1 l2
          have a2 := k6 lev j1 z
          omega
  refine ⟨152, key 151 0 (by omega) lf 0 h hA (fun _ _ => rfl) hfl (fun w => by simp) FrI.rf (fun lev l1 l2 => ?_)⟩
  apply Decidable.byContradiction
  intro z
  have := l1.1.2.1 151 (by omega) (by omega)
  omega
theorem PS.lb {N : NW} {A : Nat} {σ en lf : Nat → Nat} (h1 : PS N A σ en lf) (h2 : ∀ a, a < 550 → nC N a ≤ 4000000) : ∀ e, e < 2 * A → lf e + lf (xr e) ≤ 4000000 := by
  intro e he
  have b := h1.1 (e / 2) (by omega)
  have c := h2 _ b.1
  unfold xr
  split
  · have e1 : 2 * (e / 2) = e := by omega
    rw [e1] at b
    omega
  · have e1 : 2 * (e / 2) = e - 1 := by omega
    have e2 : 2 * (e / 2) + 1 = e := by omega
    rw [e2, e1] at b
    omega
theorem PS.re {N : NW} {A : Nat} {σ en lf lf2 : Nat → Nat} (h1 : PS N A σ en lf) (h2 : ∀ e, e < 2 * A → lf2 e + lf2 (xr e) = lf e + lf (xr e)) : PS N A σ en lf2 := by
  refine ⟨fun j hj => ?_, h1.2⟩
  have b := h1.1 j hj
  have c := h2 (2 * j) (by omega)
  rw [show xr (2 * j) = 2 * j + 1 by unfold xr; rw [if_pos (by omega)]] at c
  exact ⟨b.1, b.2.1, b.2.2.1, by rw [c]; exact b.2.2.2.1, b.2.2.2.2⟩
/-- ready for tick k -/
def RDY (v : WV) (R : Nat → Nat → Nat) (g k A : Nat) (σ en lf : Nat → Nat) (h : HP) : Prop := NT (tn v R g k) A σ en lf (Rst v k 0 0) h ∧ (A + 16 ≤ 22 * k ∨ (k = 0 ∧ A = 0))
theorem NT.next {A k : Nat} {σ en lf : Nat → Nat} (hF : WF m B v) (hk : k + 1 ≤ 24) (hT : NT (tn v R g k) A σ en lf (fun _ => False) h) (hA : A + 16 ≤ 22 * (k + 1)) : RDY v R g (k + 1) A σ en lf h := by
  have h6 := hF.1
  obtain ⟨t1, t2, t3, t4, t5⟩ := hT
  have mono : ∀ a, a < 550 → 0 < nC (tn v R g k) a → nC (tn v R g (k + 1)) a = nC (tn v R g k) a ∧ ¬ Rst v (k + 1) 0 0 a := by
    intro a ha hc
    rcases arc3 ha with ⟨s, i, hs, hi, rfl⟩ | ⟨s, i, hs, hi, rfl⟩ | ⟨l, i, hl, hi, rfl⟩
    · have e1 := (tn_s (v := v) (R := R) (g := g) (n := k) hs hi).2.2
      have e2 := (tn_s (v := v) (R := R) (g := g) (n := k + 1) hs hi).2.2
      rw [e1] at hc ⊢
      rw [e2]
      have z : s < vS v ∧ s ≠ g ∧ i ≤ k := by
        apply Decidable.byContradiction
        intro z; rw [if_neg z] at hc; omega
      rw [if_pos z, if_pos ⟨z.1, z.2.1, by omega⟩]
      refine ⟨rfl, ?_⟩
      rintro (⟨s', q1, q2, q3 | ⟨q3, q4⟩⟩ | ⟨l, q1, q2, q3, q4⟩) <;> omega
    · have e1 := (tn_y (v := v) (R := R) (g := g) (n := k) hs hi).2.2
      have e2 := (tn_y (v := v) (R := R) (g := g) (n := k + 1) hs hi).2.2
      rw [e1] at hc ⊢
      rw [e2]
      have z : s < vS v ∧ s ≠ g ∧ i < k := by
        apply Decidable.byContradiction
        intro z; rw [if_neg z] at hc; omega
      rw [if_pos z, if_pos ⟨z.1, z.2.1, by omega⟩]
      refine ⟨rfl, ?_⟩
      rintro (⟨s', q1, q2, q3 | ⟨q3, q4⟩⟩ | ⟨l, q1, q2, q3, q4⟩) <;> omega
    · have e1 := (tn_l (v := v) (R := R) (g := g) (n := k) (l := l) hi).2.2
      have e2 := (tn_l (v := v) (R := R) (g := g) (n := k + 1) (l := l) hi).2.2
      rw [e1] at hc ⊢
      rw [e2]
      have z : l < vL v ∧ vl v l 1 ≠ g ∧ i + takesL v l ≤ k := by
        apply Decidable.byContradiction
        intro z; rw [if_neg z] at hc; omega
      rw [if_pos z, if_pos ⟨z.1, z.2.1, by omega⟩]
      refine ⟨rfl, ?_⟩
      rintro (⟨s', q1, q2, q3 | ⟨q3, q4⟩⟩ | ⟨l', q1, q2, q3, q4⟩)
      · omega
      · omega
      · have := takesL_le hF q2
        have : l' = l := by omega
        subst this
        omega
  refine ⟨⟨t1, ⟨fun j hj => ?_, t2.2⟩, ⟨fun a ha hc hz => t3.1 a ha ?_ (fun q => q), fun j hj => ?_⟩, t4, t5⟩, Or.inl hA⟩
  · have b := t2.1 j hj
    rw [(mono _ b.1 b.2.2.2.2).1]
    exact b
  · rcases arc3 ha with ⟨s, i, hs, hi, rfl⟩ | ⟨s, i, hs, hi, rfl⟩ | ⟨l, i, hl, hi, rfl⟩
    · have e1 := (tn_s (v := v) (R := R) (g := g) (n := k) hs hi).2.2
      have e2 := (tn_s (v := v) (R := R) (g := g) (n := k + 1) hs hi).2.2
      rw [e2] at hc
      rw [e1]
      have z : s < vS v ∧ s ≠ g ∧ i ≤ k + 1 := by
        apply Decidable.byContradiction
        intro z; rw [if_neg z] at hc; omega
      rw [if_pos z] at hc
      have : i ≠ k + 1 := fun q => hz (Or.inl ⟨s, by omega, hs, Or.inl (by omega)⟩)
      rw [if_pos ⟨z.1, z.2.1, by omega⟩]; exact hc
    · have e1 := (tn_y (v := v) (R := R) (g := g) (n := k) hs hi).2.2
      have e2 := (tn_y (v := v) (R := R) (g := g) (n := k + 1) hs hi).2.2
      rw [e2] at hc
      rw [e1]
      have z : s < vS v ∧ s ≠ g ∧ i < k + 1 := by
        apply Decidable.byContradiction
        intro z; rw [if_neg z] at hc; omega
      rw [if_pos z] at hc
      have : i ≠ k := fun q => hz (Or.inl ⟨s, by omega, hs, Or.inr ⟨by omega, by omega⟩⟩)
      rw [if_pos ⟨z.1, z.2.1, by omega⟩]; exact hc
    · have e1 := (tn_l (v := v) (R := R) (g := g) (n := k) (l := l) hi).2.2
      have e2 := (tn_l (v := v) (R := R) (g := g) (n := k + 1) (l := l) hi).2.2
      rw [e2] at hc
      rw [e1]
      have z : l < vL v ∧ vl v l 1 ≠ g ∧ i + takesL v l ≤ k + 1 := by
        apply Decidable.byContradiction
        intro z; rw [if_neg z] at hc; omega
      rw [if_pos z] at hc
      have : i + takesL v l ≠ k + 1 := fun q => hz (Or.inr ⟨l, by omega, z.1, by omega, by omega⟩)
      rw [if_pos ⟨z.1, z.2.1, by omega⟩]; exact hc
  · have b := t2.1 j hj
    exact (mono _ b.1 b.2.2.2.2).2
/-- the network has been flowed through: horizon n, what comes V -/
def FLD (v : WV) (R : Nat → Nat → Nat) (g n A V : Nat) (σ en lf lev : Nat → Nat) (h : HP) : Prop := NT (tn v R g n) A σ en lf (fun _ => False) h ∧ A + 16 ≤ 22 * (n + 1) ∧ gi h 88 4 = nI (n + 1) ∧ gi h 88 5 = nI (own v g n + V) ∧ ex (NP A en lf) (fP lf) 150 = (V : Int) ∧ LVS A en lf lev ∧ lev 151 = 0 ∧ ∀ w, w < 152 → gi h 94 w = cd (lev w)
theorem c_flowBehind {A k n V : Nat} {σ en lf : Nat → Nat} (hF : WF m B v) (hg : g < vS v) (hn : n ≤ 24) (hk : k ≤ n) (hht : ht < 2 ^ 31) (hx : NX w v g hl ht h) (hr : RDY v (rmB v (-1) (-1) hl ht) g k A σ en lf h) (ht4 : gi h 88 4 = nI k) (hV : ex (NP A en lf) (fP lf) 150 = (V : Int)) (hfl : gi h 88 5 = nI (sm (fun i => cmV v g i) k + V))
    (hQ : ∀ A' V' σ' en' lf' lev h', FLD v (rmB v (-1) (-1) hl ht) g n A' V' σ' en' lf' lev h' → FrI cellsN h h' → Q (nI (own v g n + V')) h') : f_X1_flowBehind (nI n) h Q := by
  have h6 := hF.1
  unfold f_X1_flowBehind
  intro x2 e2
  rw [ht4] at e2
  rw [e2]
  have cle : ∀ a, a < 550 → nC (tn v (rmB v (-1) (-1) hl ht) g n) a ≤ 4000000 := fun a ha => tnC_le hF (rmB_fB hF).1 ha
  have fin : ∀ A1 σ1 en1 lf1 h1, NT (tn v (rmB v (-1) (-1) hl ht) g n) A1 σ1 en1 lf1 (fun _ => False) h1 → A1 + 16 ≤ 22 * (n + 1) → gi h1 88 5 = nI (own v g n + V) → ex (NP A1 en1 lf1) (fP lf1) 150 = (V : Int) → FrI cellsN h h1 → gi h1 88 4 = nI k → f_X1_flowBehind_J27 (nI n) Q h1 := by
    intro A1 σ1 en1 lf1 h1 k1 k2 k3 k4 k5 k6
    unfold f_X1_flowBehind_J27
    intro h7 e7
    have e7' : h7 = si h1 88 4 (nI (n + 1)) := by
      rw [e7, k6, nI_1]
      congr 1
      rw [if_pos (nI_lt (by omega) (by omega))]
    have f7 : FrI (fun a k => a = 88 ∧ k = 4) h1 h7 := by rw [e7']; exact FrI.si ⟨rfl, rfl⟩
    have k1' := k1.frame f7 (by intro x k; simp only [cellsA]; omega)
    refine c_phases (F := own v g n + V) k1'.1 (k1'.2.1.lb cle) (by rw [f7.1 _ _ (by omega)]; exact k3) (fun lf2 G lev h2 j1 j2 j3 j4 j5 j6 j7 j8 => ?_)
    rw [Nat.add_assoc] at j6 ⊢
    refine hQ A1 (V + G) σ1 en1 lf2 lev h2 ⟨⟨j1, k1'.2.1.re j5, k1'.2.2.1, ⟨fun j hj => Nat.le_add_left _ _, fun w h1 h2 => ?_⟩, fun j hj => ?_⟩, k2, ?_, j6, ?_, j2, j3, j4⟩ ((k5.trans (f7.mono (fun a k q => Or.inl (by omega)))).trans (j8.mono (fun a k q => by simp only [cellsF] at q; simp only [cellsN]; omega)))
    · rw [j7 w, k1'.2.2.2.1.2 w h1 h2]
      have b1 : bi 150 w = 0 := if_neg (fun z => h2 z.symm)
      have b2 : bi 151 w = 0 := if_neg (fun z => h1 z.symm)
      rw [b1, b2]; simp
    · rw [j8.1 _ _ (by simp only [cellsF]; omega)]; exact k1'.2.2.2.2 j hj
    · rw [j8.1 _ _ (by simp only [cellsF]; omega), e7', gi_si, if_pos ⟨rfl, rfl⟩]
    · rw [j7 150, k4, show bi 150 150 = 1 from if_pos rfl, show bi 151 150 = 0 from if_neg (by omega)]; omega
  have key : ∀ r j, j + r = n + 1 → k ≤ j → ∀ A1 σ1 en1 lf1 h1, ((j ≤ n ∧ RDY v (rmB v (-1) (-1) hl ht) g j A1 σ1 en1 lf1 h1) ∨ (j = n + 1 ∧ NT (tn v (rmB v (-1) (-1) hl ht) g n) A1 σ1 en1 lf1 (fun _ => False) h1 ∧ A1 + 16 ≤ 22 * (n + 1))) → gi h1 88 5 = nI (sm (fun i => cmV v g i) j + V) → ex (NP A1 en1 lf1) (fP lf1) 150 = (V : Int) → FrI cellsN h h1 → gi h1 88 4 = nI k → f_X1_flowBehind_L5 (nI n) (fun h6 => f_X1_flowBehind_J27 (nI n) Q h6) Q (r + 1) (nI j) h1 := by
    intro r
    induction r with
    | zero =>
      intro j hj hkj A1 σ1 en1 lf1 h1 k1 k2 k3 k4 k5
      have ej : j = n + 1 := by omega
      unfold f_X1_flowBehind_L5
      refine br_lt (by omega) (by omega) (fun _ => ?_) (fun z => by omega)
      rcases k1 with q | q
      · omega
      · exact fin A1 σ1 en1 lf1 h1 q.2.1 q.2.2 (by rw [ej] at k2; exact k2) k3 k4 k5
    | succ r ih =>
      intro j hj hkj A1 σ1 en1 lf1 h1 k1 k2 k3 k4 k5
      unfold f_X1_flowBehind_L5
      refine br_lt (by omega) (by omega) (fun z => by omega) (fun _ => ?_)
      refine br_lt (a := 24) (by omega) (by omega) (fun z => by omega) (fun _ => ?_)
      rcases k1 with q | q
      · have x1 : NX w v g hl ht h1 := hx.frame h6.2.1 h6.2.2 k4 (by intro a k; simp only [cellsN]; omega)
        refine c_addTick hF hg (by omega) hht x1 q.2.1 q.2.2 k2 (fun A2 σ2 en2 lf2 h2 j1 j2 j3 j4 j5 => ?_)
        intro x ex
        rw [ex, nI_1]
        refine ih (j + 1) (by omega) (by omega) A2 σ2 en2 lf2 h2 ?_ ?_ (j4.trans k3) (k4.trans (j5.mono (fun a k q => by simp only [cellsT, cellsA] at q; simp only [cellsN]; omega))) (by rw [j5.1 _ _ (by simp only [cellsT, cellsA]; omega)]; exact k5)
        · by_cases z : j + 1 ≤ n
          · exact Or.inl ⟨z, NT.next hF (by omega) j1 j2⟩
          · have e : j = n := by omega
            subst e
            exact Or.inr ⟨rfl, j1, j2⟩
        · rw [j3, sm]
          congr 1
          omega
      · omega
  exact ⟨n + 1 - k + 1, key (n + 1 - k) k (by omega) (Nat.le_refl _) A σ en lf h (Or.inl ⟨hk, hr⟩) hfl hV FrI.rf ht4⟩
/-- the network is opened -/
theorem rdy0 (hF : WF m B v) (hA : AR 0 (fun e => e) (fun e => e) (fun _ => 0) h) : RDY v R g 0 0 (fun e => e) (fun e => e) (fun _ => 0) h := by
  refine ⟨⟨hA.congr (fun i hi => by omega), ⟨fun j hj => by omega, fun i j hij hj => by omega⟩, ⟨fun a ha hc hz => ?_, fun j hj => by omega⟩, ⟨fun a ha => absurd ha (Nat.not_lt_zero a), fun w h1 h2 => rfl⟩, fun j hj => by omega⟩, Or.inr ⟨rfl, rfl⟩⟩
  exfalso
  rcases arc3 ha with ⟨s, i, hs, hi, rfl⟩ | ⟨s, i, hs, hi, rfl⟩ | ⟨l, i, hl, hi, rfl⟩
  · rw [(tn_s (v := v) (R := R) (g := g) (n := 0) hs hi).2.2] at hc
    have z : s < vS v ∧ s ≠ g ∧ i ≤ 0 := by
      apply Decidable.byContradiction
      intro z; rw [if_neg z] at hc; omega
    exact hz (Or.inl ⟨s, by omega, hs, Or.inl (by omega)⟩)
  · rw [(tn_y (v := v) (R := R) (g := g) (n := 0) hs hi).2.2, if_neg (by omega)] at hc
    omega
  · rw [(tn_l (v := v) (R := R) (g := g) (n := 0) (l := l) hi).2.2] at hc
    have z : l < vL v ∧ vl v l 1 ≠ g ∧ i + takesL v l ≤ 0 := by
      apply Decidable.byContradiction
      intro z; rw [if_neg z] at hc; omega
    have := takesL_le hF z.1
    omega
abbrev cellsO : Nat → Nat → Prop := fun a _ => 88 ≤ a ∧ a ≤ 98
/-- FrI, but for the network's world -/
def FrO (h h' : HP) : Prop := (∀ a k, ¬ cellsO a k → gi h' a k = gi h a k) ∧ (∀ a k, gl h' a k = gl h a k) ∧ gw h' 1 = gw h 1
theorem FrO.trans {h1 h2 : HP} (a : FrO h h1) (b : FrO h1 h2) : FrO h h2 := ⟨fun x k n => (b.1 x k n).trans (a.1 x k n), fun x k => (b.2.1 x k).trans (a.2.1 x k), b.2.2.trans a.2.2⟩
theorem FrO.rf : FrO h h := ⟨fun _ _ _ => rfl, fun _ _ => rfl, rfl⟩
theorem FrI.o {P : Nat → Nat → Prop} {h1 : HP} (f : FrI P h h1) (hp : ∀ a k, P a k → cellsO a k) : FrO h h1 := ⟨fun a k n => f.1 a k (fun q => n (hp a k q)), f.2.1, f.2.2 1⟩
theorem HC.o {h1 : HP} (hC : HC w v h) (f : FrO h h1) (hw : w + 29 ≤ 88) (hS : vS v ≤ 6) (hL : vL v ≤ 10) : HC w v h1 := by
  obtain ⟨⟨a1, a2, a3, a4⟩, b, c, d⟩ := hC
  have n : ∀ a k, a < 88 → ¬ cellsO a k := fun a k h1 h2 => by simp only [cellsO] at h2; omega
  refine ⟨⟨?_, ?_, ?_, ?_⟩, fun s hs k hk => ?_, fun l hl k hk => ?_, fun l hl k hk => ?_⟩
  · rw [f.1 _ _ (n _ _ (by omega))]; exact a1
  · rw [f.1 _ _ (n _ _ (by omega))]; exact a2
  · rw [f.1 _ _ (n _ _ (by omega))]; exact a3
  · rw [f.1 _ _ (n _ _ (by omega))]; exact a4
  · rw [f.1 _ _ (n _ _ (by omega))]; exact b s hs k hk
  · rw [f.1 _ _ (n _ _ (by omega))]; exact c l hl k hk
  · rw [f.1 _ _ (n _ _ (by omega))]; exact d l hl k hk
theorem c_open {Q : HP → Prop} (hF : WF m B v) (hC : HC w v h) (hw : w = 1 ∨ w = 59) (hQ : ∀ h', NX w v g (-1) 0 h' → AR 0 (fun e => e) (fun e => e) (fun _ => 0) h' → gi h' 88 4 = nI 0 → gi h' 88 5 = nI 0 → FrO h h' → Q h') : f_X1_open w (nI g) h Q := by
  unfold f_X1_open
  intro h1 e1 h2 e2 h3 e3 h4 e4 h5 e5 h6 e6 h7 e7
  refine t_fillI (n := 152) (by decide +kernel) (by decide) (fun h8 z8 f8 => ?_)
  have up : ∀ a k, gi h7 a k = if a = 88 ∧ k = 6 then 0 else if a = 88 ∧ k = 5 then 0 else if a = 88 ∧ k = 4 then 0 else if a = 88 ∧ k = 3 then 0 else if a = 88 ∧ k = 2 then -1 else if a = 88 ∧ k = 1 then nI g else gi h a k := by
    intro a k
    rw [e7, gi_si, e6, gi_si, e5, gi_si, e4, gi_si, e3, gi_si, e2, gi_si, e1]
    rfl
  have up8 : ∀ a k, a ≠ 89 → gi h8 a k = gi h7 a k := fun a k z => f8.1 a k (fun q => z q.1)
  have fo : FrO h h8 := by
    refine ⟨fun a k z => ?_, fun a k => ?_, ?_⟩
    · simp only [cellsO] at z
      rw [up8 _ _ (by omega), up, if_neg (by omega), if_neg (by omega), if_neg (by omega), if_neg (by omega), if_neg (by omega), if_neg (by omega)]
    · rw [f8.2.1, e7, e6, e5, e4, e3, e2, e1]; rfl
    · rw [f8.2.2, e7, e6, e5, e4, e3, e2, e1]; rfl
  refine hQ h8 ⟨⟨by rw [f8.2.2, e7, e6, e5, e4, e3, e2, e1]; rfl, hw⟩, hC.o fo (by omega) hF.1.2.1 hF.1.2.2, ?_, ?_, ?_⟩ ⟨⟨by omega, ?_⟩, fun e he => by omega, fun w' hw' => by rw [z8 w' hw']; exact cd_0.symm⟩ ?_ ?_ fo
  · rw [up8 _ _ (by omega), up]; simp
  · rw [up8 _ _ (by omega), up]; simp
  · rw [up8 _ _ (by omega), up]; rfl
  · rw [up8 _ _ (by omega), up]; rfl
  · rw [up8 _ _ (by omega), up]; rfl
  · rw [up8 _ _ (by omega), up]; rfl
end Fb
