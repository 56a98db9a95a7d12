/-! tests of numbers -/
theorem br_le {a b : Nat} {A B : Prop} (ha : a < 2 ^ 31) (hb : b < 2 ^ 31) (h1 : a ≤ b → A) (h2 : b < a → B) : (nI a ≤ nI b → A) ∧ (¬ nI a ≤ nI b → B) :=
  ⟨fun q => h1 ((nI_leI ha hb).mp q), fun q => h2 (by
    apply Decidable.byContradiction
    intro z
    exact q ((nI_leI ha hb).mpr (by omega)))⟩
theorem br_lt {a b : Nat} {A B : Prop} (ha : a < 2 ^ 31) (hb : b < 2 ^ 31) (h1 : a < b → A) (h2 : b ≤ a → B) : (nI a < nI b → A) ∧ (¬ nI a < nI b → B) :=
  ⟨fun q => h1 ((nI_ltI ha hb).mp q), fun q => h2 (by
    apply Decidable.byContradiction
    intro z
    exact q ((nI_ltI ha hb).mpr (by omega)))⟩
theorem br_eq {a b : Nat} {A B : Prop} (ha : a < 2 ^ 31) (hb : b < 2 ^ 31) (h1 : a = b → A) (h2 : a ≠ b → B) : (nI a = nI b → A) ∧ (¬ nI a = nI b → B) :=
  ⟨fun q => h1 ((nI_eq ha hb).mp q), fun q => h2 (fun z => q (by rw [z]))⟩
theorem nI_subT {a b : Nat} (ha : a < 2 ^ 31) (hb : b < 2 ^ 31) : (nI a - nI b).toInt = (a : Int) - b := by
  rw [Int32.toInt_sub, nI_toInt ha, nI_toInt hb]
  exact Int.bmod_eq_of_le (by omega) (by omega)
theorem nI_addT {a b : Nat} (h : a + b < 2 ^ 31) : (nI a + nI b).toInt = (a : Int) + b := by
  rw [nI_add, nI_toInt h]; omega
theorem i32_0 : (0 : Int32).toInt = 0 := by decide +kernel
theorem br_neg {a b : Nat} {A B : Prop} (ha : a < 2 ^ 31) (hb : b < 2 ^ 31) (h1 : a < b → A) (h2 : b ≤ a → B) : (nI a - nI b < 0 → A) ∧ (¬ nI a - nI b < 0 → B) := by
  have e : nI a - nI b < 0 ↔ a < b := by rw [i32_lt, nI_subT ha hb, i32_0]; omega
  exact ⟨fun q => h1 (e.mp q), fun q => h2 (by
    apply Decidable.byContradiction
    intro z
    exact q (e.mpr (by omega)))⟩
/-- what leads on from p leads to what was met -/
def OuF (v : WV) (R : Nat → Nat → Nat) (g n : Nat) (f : Nat → Nat) (σ : SB) (p l : Nat) : Prop := vl v l 1 = p / 25 → p % 25 + takesL v l ≤ n → f (300 + (25 * l + p % 25)) < R l (p % 25) → vl v l 2 ≠ g ∧ bB σ (25 * vl v l 2 + (p % 25 + takesL v l)) ≠ 0
def OuB (v : WV) (g : Nat) (f : Nat → Nat) (σ : SB) (p l : Nat) : Prop := vl v l 2 = p / 25 → takesL v l ≤ p % 25 → vl v l 1 ≠ g → 0 < f (300 + (25 * l + (p % 25 - takesL v l))) → bB σ (25 * vl v l 1 + (p % 25 - takesL v l)) ≠ 0
def OuS (v : WV) (n : Nat) (f : Nat → Nat) (σ : SB) (p : Nat) : Prop := (p % 25 < n → f (150 + p) < holdsS v (p / 25) (vT v + p % 25) → bB σ (p + 1) ≠ 0) ∧ (0 < p % 25 → 0 < f (150 + (p - 1)) → bB σ (p - 1) ≠ 0)
def Out (v : WV) (R : Nat → Nat → Nat) (g n : Nat) (f : Nat → Nat) (σ : SB) (p : Nat) : Prop := (∀ l, l < vL v → OuF v R g n f σ p l) ∧ OuS v n f σ p ∧ ∀ l, l < vL v → OuB v g f σ p l
section Se
variable {v : WV} {R : Nat → Nat → Nat} {g n m B : Nat} {f : Nat → Nat} {σ σ' : SB} {h : HP}
theorem OuF.mono (hF : WF m B v) (hn : n ≤ 24) {p l : Nat} (hl : l < vL v) (o : OuF v R g n f σ p l) (mo : SMo v σ σ') : OuF v R g n f σ' p l := by
  intro a b c
  have h1 := o a b c
  have h2 := hF.2.2.1 l hl
  exact ⟨h1.1, mo.1 _ (by omega) h1.2⟩
theorem OuB.mono (hF : WF m B v) {p l : Nat} (hl : l < vL v) (o : OuB v g f σ p l) (mo : SMo v σ σ') : OuB v g f σ' p l := by
  intro a b c d
  have h2 := hF.2.2.1 l hl
  exact mo.1 _ (by omega) (o a b c d)
theorem OuS.mono (hn : n ≤ 24) {p : Nat} (hp : p < 25 * vS v) (o : OuS v n f σ p) (mo : SMo v σ σ') : OuS v n f σ' p := ⟨fun a b => mo.1 _ (by omega) (o.1 a b), fun a b => mo.1 _ (by omega) (o.2 a b)⟩
theorem Out.mono (hF : WF m B v) (hn : n ≤ 24) {p : Nat} (hp : p < 25 * vS v) (o : Out v R g n f σ p) (mo : SMo v σ σ') : Out v R g n f σ' p :=
  ⟨fun l hl => (o.1 l hl).mono hF hn hl mo, o.2.1.mono hn hp mo, fun l hl => (o.2.2 l hl).mono hF hl mo⟩
/-- bounds of the flow -/
def fB (R : Nat → Nat → Nat) (f : Nat → Nat) : Prop := (∀ l i, R l i ≤ 100000) ∧ ∀ a, f a ≤ 4000000
theorem HM.fb {h1 : HP} (hM : HM v h) (hf : FrI cellsB h h1) : HM v h1 := hM.frame hf (by intro a k; simp only [cellsM, cellsB]; omega)
theorem RS.fb {h1 : HP} (hR : RS v R f h) (hf : FrI cellsB h h1) : RS v R f h1 := hR.frame hf (by intro a k; simp only [cellsB]; omega)
theorem m_spreads {Q : Int32 → HP → Prop} {p : Nat} (hF : WF m B v) (hg : g < vS v) (hn : n ≤ 24) (hfB : fB R f) (hM : HM v h) (hR : RS v R f h) (hv : SIv v R g n f σ) (hh : SIh v σ h) (hp : p < 25 * vS v) (hb : bB σ p ≠ 0)
    (hQ1 : ∀ σ' h', SIv v R g n f σ' → SIh v σ' h' → SMo v σ σ' → FrI cellsB h h' → Out v R g n f σ' p → Q (-1) h')
    (hQ2 : ∀ l σ' h', SIv v R g n f σ' → SIh v σ' h' → SMo v σ σ' → FrI cellsB h h' → l < vL v → vl v l 1 = p / 25 → vl v l 2 = g → p % 25 + takesL v l ≤ n → f (300 + (25 * l + p % 25)) < R l (p % 25) → Q (nI (10 * p + l)) h') : f_X8_spreads (nI p) (nI g) (nI n) h Q := by
  have h6 := hF.1
  have hpv := hv.1 p hp hb
  unfold f_X8_spreads
  intro x4 e4 x5 e5
  rw [lit 25, nI_div (by omega) (by omega) (by omega)] at e4
  rw [lit 25, nI_rem (by omega) (by omega) (by omega)] at e5
  subst e4
  subst e5
  -- what stands behind the loops
  have last : ∀ σ1 h1, SIv v R g n f σ1 → SIh v σ1 h1 → SMo v σ σ1 → FrI cellsB h h1 → (∀ l, l < vL v → OuF v R g n f σ1 p l) → OuS v n f σ1 p → ∃ c, f_X8_spreads_L186 (nI g) (nI (p / 25)) (nI (p % 25)) Q c 0 h1 := by
    intro σ1 h1 k1 k2 k3 k4 k5 k6
    have key := loop_up (L := fun c i => ∀ σ1 h1, SIv v R g n f σ1 → SIh v σ1 h1 → SMo v σ σ1 → FrI cellsB h h1 → (∀ l, l < vL v → OuF v R g n f σ1 p l) → OuS v n f σ1 p → (∀ l, l < i → OuB v g f σ1 p l) → f_X8_spreads_L186 (nI g) (nI (p / 25)) (nI (p % 25)) Q c (nI i) h1) (vL v) 0 (by omega) (fun c σ1 h1 k1 k2 k3 k4 k5 k6 k7 => ?_) (fun i c _ hi ih σ1 h1 k1 k2 k3 k4 k5 k6 k7 => ?_)
    · obtain ⟨c, hc⟩ := key
      exact ⟨c, hc σ1 h1 k1 k2 k3 k4 k5 k6 (fun l hl => by omega)⟩
    · unfold f_X8_spreads_L186
      have hM1 := hM.fb k4
      rw [hM1.1.2.2.2]
      exact br_le (by omega) (by omega) (fun _ => hQ1 σ1 h1 k1 k2 k3 k4 ⟨k5, k6, k7⟩) (fun z => by omega)
    · unfold f_X8_spreads_L186
      have hM1 := hM.fb k4
      have hR1 := hR.fb k4
      have hl := hF.2.2.1 i hi
      have ht := takesL_le hF hi
      rw [hM1.1.2.2.2]
      refine br_le (by omega) (by omega) (fun z => by omega) (fun _ => ⟨vp_in_nI (by omega) (by decide), ?_⟩)
      intro x7 e7
      rw [ix_nI (by omega), hR1.1 i hi] at e7
      have skip : OuB v g f σ1 p i → ∀ x : Int32, x = nI i + 1 → f_X8_spreads_L186 (nI g) (nI (p / 25)) (nI (p % 25)) Q c x h1 := by
        intro o x ex
        rw [ex, nI_1]
        refine ih σ1 h1 k1 k2 k3 k4 k5 k6 (fun l hl => ?_)
        by_cases e : l = i
        · rw [e]; exact o
        · exact k7 l (by omega)
      rw [lit 2, m_at hF hM1 hi (by omega)]
      refine br_eq (by omega) (by omega) (fun z1 => ?_) (fun z1 => skip (fun q => absurd q z1))
      rw [e7]
      refine br_neg (by omega) (by omega) (fun z2 => skip (fun _ q => by omega)) (fun z2 => ?_)
      rw [nI_sub z2, lit 1, m_at hF hM1 hi (by omega)]
      refine br_eq (by omega) (by omega) (fun z3 => skip (fun _ _ q => absurd z3 q)) (fun z3 => ?_)
      rw [lit 25, nI_mul, nI_add, ix_nI (by omega), (hR1.2.1 i hi _ (by omega)).2]
      refine ⟨vp_in_nI (by omega) (by decide), ?_⟩
      have hf4 := hfB.2 (300 + (25 * i + (p % 25 - takesL v i)))
      refine br_le (b := 0) (by omega) (by omega) (fun z4 => skip (fun _ _ _ q => by omega)) (fun z4 => ?_)
      rw [m_at hF hM1 hi (by omega), nI_mul, nI_add, lit 30, nI_add]
      refine m_meets (p' := p) h6.2.1 k1 k2 (by omega) (by omega) (by omega) (by omega) (by omega) (Or.inr ⟨by omega, hp, k3.1 p hp hb, Or.inr (Or.inr (Or.inr ⟨i, p % 25 - takesL v i, hi, rfl, by omega, by omega, by omega, z3, by omega, z4⟩))⟩) (fun σ2 h2 j1 j2 j3 j4 j5 => ?_)
      intro x ex
      rw [ex, nI_add]
      refine ih σ2 h2 j1 j2 (k3.trans j3) (k4.trans j5) (fun l hl => (k5 l hl).mono hF hn hl j3) (k6.mono hn hp j3) (fun l hl => ?_)
      by_cases e : l = i
      · rw [e]; exact fun _ _ _ _ => j4
      · exact (k7 l (by omega)).mono hF (by omega) j3
  have J : ∀ σ1 h1, SIv v R g n f σ1 → SIh v σ1 h1 → SMo v σ σ1 → FrI cellsB h h1 → (∀ l, l < vL v → OuF v R g n f σ1 p l) → (p % 25 < n → f (150 + p) < holdsS v (p / 25) (vT v + p % 25) → bB σ1 (p + 1) ≠ 0) → f_X8_spreads_J159 (nI p) (nI g) (nI (p / 25)) (nI (p % 25)) Q h1 := by
    intro σ1 h1 k1 k2 k3 k4 k5 k6
    unfold f_X8_spreads_J159
    have hR1 := hR.fb k4
    refine br_le (b := 0) (by omega) (by omega) (fun z => last σ1 h1 k1 k2 k3 k4 k5 ⟨k6, fun q => by omega⟩) (fun z => ?_)
    rw [lit 1, nI_sub (by omega), ix_nI (by omega)]
    have e0 : p - 1 = 25 * (p / 25) + (p % 25 - 1) := by omega
    have e1 : gi h1 129 (p - 1) = nI (f (150 + (p - 1))) := by
      rw [e0]; exact (hR1.2.2 (p / 25) (by omega) (p % 25 - 1) (by omega)).2.2.2
    rw [e1]
    refine ⟨vp_in_nI (by omega) (by decide), ?_⟩
    have hf4 := hfB.2 (150 + (p - 1))
    refine br_le (b := 0) (by omega) (by omega) (fun z2 => last σ1 h1 k1 k2 k3 k4 k5 ⟨k6, fun q q2 => by omega⟩) (fun z2 => ?_)
    refine m_meets (p := p - 1) (p' := p) (how := 3) h6.2.1 k1 k2 (by omega) (by omega) (by omega) (by omega) (by omega) (Or.inr ⟨by omega, hp, k3.1 p hp hb, Or.inr (Or.inl ⟨rfl, by omega, by omega, z2⟩)⟩) (fun σ2 h2 j1 j2 j3 j4 j5 => ?_)
    exact last σ2 h2 j1 j2 (k3.trans j3) (k4.trans j5) (fun l hl => (k5 l hl).mono hF hn hl j3) ⟨fun a b => j3.1 _ (by omega) (k6 a b), fun _ _ => j4⟩
  have key := loop_up (L := fun c i => ∀ σ1 h1, SIv v R g n f σ1 → SIh v σ1 h1 → SMo v σ σ1 → FrI cellsB h h1 → (∀ l, l < i → OuF v R g n f σ1 p l) → f_X8_spreads_L15 (nI p) (nI g) (nI n) (nI (p / 25)) (nI (p % 25)) (fun h23 =>
      (((nI n ≤ nI (p % 25)) →
        f_X8_spreads_J159 (nI p) (nI g) (nI (p / 25)) (nI (p % 25))  Q h23) ∧
       (¬ (nI n ≤ nI (p % 25)) →
        vp_in (nI p) 150 ∧
        vp_in (nI p) 150 ∧
        ((((gi h23 126 (ix (nI p))) ≤ (gi h23 129 (ix (nI p)))) →
          f_X8_spreads_J159 (nI p) (nI g) (nI (p / 25)) (nI (p % 25))  Q h23) ∧
         (¬ ((gi h23 126 (ix (nI p))) ≤ (gi h23 129 (ix (nI p)))) →
          f_X8_meets ((nI p) + 1) 2 h23 (fun h55 =>
          f_X8_spreads_J159 (nI p) (nI g) (nI (p / 25)) (nI (p % 25))  Q h55)))))) Q c (nI i) h1) (vL v) 0 (by omega) (fun c σ1 h1 k1 k2 k3 k4 k5 => ?_) (fun i c _ hi ih σ1 h1 k1 k2 k3 k4 k5 => ?_)
  · obtain ⟨c, hc⟩ := key
    exact ⟨c, hc σ h hv hh SMo.rf FrI.rf (fun l hl => by omega)⟩
  · unfold f_X8_spreads_L15
    have hM1 := hM.fb k4
    have hR1 := hR.fb k4
    rw [hM1.1.2.2.2]
    refine br_le (by omega) (by omega) (fun _ => ?_) (fun z => by omega)
    refine br_le (by omega) (by omega) (fun z => J σ1 h1 k1 k2 k3 k4 k5 (fun q => by omega)) (fun z => ⟨vp_in_nI (by omega) (by decide), vp_in_nI (by omega) (by decide), ?_⟩)
    have e0 : p = 25 * (p / 25) + p % 25 := by omega
    have q1 := hR1.2.2 (p / 25) (by omega) (p % 25) (by omega)
    rw [← e0] at q1
    rw [ix_nI (by omega), q1.1, q1.2.2.2]
    have hf4 := hfB.2 (150 + p)
    have hh4 : holdsS v (p / 25) (vT v + p % 25) ≤ 99999 := holdsV_le (hF.2.1 (p / 25) (by omega)).2
    refine br_le (by omega) (by omega) (fun z2 => J σ1 h1 k1 k2 k3 k4 k5 (fun q q2 => by omega)) (fun z2 => ?_)
    rw [nI_1]
    have w1 : (p + 1) / 25 = p / 25 := by omega
    have w2 : (p + 1) % 25 = p % 25 + 1 := by omega
    refine m_meets (p := p + 1) (p' := p) (how := 2) h6.2.1 k1 k2 (by omega) (by omega) (by omega) (by omega) (by omega) (Or.inr ⟨by omega, hp, k3.1 p hp hb, Or.inl ⟨rfl, rfl, by omega, by rw [w1, w2, Nat.add_sub_cancel]; exact z2⟩⟩) (fun σ2 h2 j1 j2 j3 j4 j5 => ?_)
    exact J σ2 h2 j1 j2 (k3.trans j3) (k4.trans j5) (fun l hl => (k5 l hl).mono hF hn hl j3) (fun _ _ => j4)
  · unfold f_X8_spreads_L15
    have hM1 := hM.fb k4
    have hR1 := hR.fb k4
    have hl := hF.2.2.1 i hi
    have ht := takesL_le hF hi
    rw [hM1.1.2.2.2]
    refine br_le (by omega) (by omega) (fun z => by omega) (fun _ => ⟨vp_in_nI (by omega) (by decide), ?_⟩)
    intro x7 e7
    rw [ix_nI (by omega), hR1.1 i hi, nI_add] at e7
    have skipv : OuF v R g n f σ1 p i → ∀ l, l < i + 1 → OuF v R g n f σ1 p l := by
      intro o l hl
      by_cases e : l = i
      · rw [e]; exact o
      · exact k5 l (by omega)
    have stp : ∀ x : Int32, x = nI i + 1 → x = nI (i + 1) := fun x ex => ex.trans (nI_1 i)
    rw [lit 1, m_at hF hM1 hi (by omega)]
    refine br_eq (by omega) (by omega) (fun z1 => ?_) (fun z1 x ex => by rw [stp x ex]; exact ih σ1 h1 k1 k2 k3 k4 (skipv (fun q => absurd q z1)))
    rw [e7]
    refine br_lt (by omega) (by omega) (fun z2 x ex => by rw [stp x ex]; exact ih σ1 h1 k1 k2 k3 k4 (skipv (fun _ q => by omega))) (fun z2 => ?_)
    have hR4 := hfB.1 i (p % 25)
    have hf4 := hfB.2 (300 + (25 * i + p % 25))
    rw [lit 25, nI_mul, nI_add, ix_nI (by omega), (hR1.2.1 i hi _ (by omega)).2, (hR1.2.1 i hi _ (by omega)).1]
    refine ⟨vp_in_nI (by omega) (by decide), vp_in_nI (by omega) (by decide), ?_⟩
    refine br_le (by omega) (by omega) (fun z3 x ex => by rw [stp x ex]; exact ih σ1 h1 k1 k2 k3 k4 (skipv (fun _ _ q => by omega))) (fun z3 => ?_)
    rw [lit 2, m_at hF hM1 hi (by omega)]
    refine br_eq (by omega) (by omega) (fun z4 => ?_) (fun z4 => ?_)
    · rw [lit 10, nI_mul, nI_add]
      exact hQ2 i σ1 h1 k1 k2 k3 k4 hi z1 z4 z2 z3
    · rw [m_at hF hM1 hi (by omega), nI_mul, nI_add, lit 10, nI_add]
      refine m_meets (p' := p) h6.2.1 k1 k2 (by omega) (by omega) (by omega) (by omega) (by omega) (Or.inr ⟨by omega, hp, k3.1 p hp hb, Or.inr (Or.inr (Or.inl ⟨i, p % 25, hi, rfl, rfl, by omega, z2, by omega, z4, z3⟩))⟩) (fun σ2 h2 j1 j2 j3 j4 j5 => ?_)
      intro x ex
      rw [stp x ex]
      refine ih σ2 h2 j1 j2 (k3.trans j3) (k4.trans j5) (fun l hl => ?_)
      by_cases e : l = i
      · rw [e]; exact fun _ _ _ => ⟨z4, j4⟩
      · exact (k5 l (by omega)).mono hF hn (by omega) j3
end Se
