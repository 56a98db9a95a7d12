/-! the reference's search -/
abbrev SB : Type := (Nat → Nat) × (Nat → Nat) × (Nat → Nat) × (Nat → Nat) × Nat
def bB (σ : SB) : Nat → Nat := σ.1
def bQ (σ : SB) : Nat → Nat := σ.2.1
def bR (σ : SB) : Nat → Nat := σ.2.2.1
def bP (σ : SB) : Nat → Nat := σ.2.2.2.1
def bM (σ : SB) : Nat := σ.2.2.2.2
/-- what the reference has laid out, and its flow -/
def RS (v : WV) (R : Nat → Nat → Nat) (f : Nat → Nat) (h : HP) : Prop :=
  (∀ l, l < vL v → gi h 131 l = nI (takesL v l)) ∧
  (∀ l, l < vL v → ∀ i, i < 25 → gi h 125 (25 * l + i) = nI (R l i) ∧ gi h 130 (25 * l + i) = nI (f (300 + (25 * l + i)))) ∧
  (∀ s, s < vS v → ∀ i, i < 25 → gi h 126 (25 * s + i) = nI (holdsS v s (vT v + i)) ∧ gi h 127 (25 * s + i) = nI (cmV v s i) ∧ gi h 128 (25 * s + i) = nI (f (25 * s + i)) ∧ gi h 129 (25 * s + i) = nI (f (150 + (25 * s + i))))
theorem RS.frame {P : Nat → Nat → Prop} {v : WV} {R : Nat → Nat → Nat} {f : Nat → Nat} {h h' : HP} (hR : RS v R f h) (hf : FrI P h h') (hd : ∀ a k, 125 ≤ a → a ≤ 131 → ¬ P a k) : RS v R f h' := by
  obtain ⟨a, b, c⟩ := hR
  refine ⟨fun l hl => ?_, fun l hl i hi => ⟨?_, ?_⟩, fun s hs i hi => ⟨?_, ?_, ?_, ?_⟩⟩
  · rw [hf.1 _ _ (hd _ _ (by omega) (by omega))]; exact a l hl
  · rw [hf.1 _ _ (hd _ _ (by omega) (by omega))]; exact (b l hl i hi).1
  · rw [hf.1 _ _ (hd _ _ (by omega) (by omega))]; exact (b l hl i hi).2
  · rw [hf.1 _ _ (hd _ _ (by omega) (by omega))]; exact (c s hs i hi).1
  · rw [hf.1 _ _ (hd _ _ (by omega) (by omega))]; exact (c s hs i hi).2.1
  · rw [hf.1 _ _ (hd _ _ (by omega) (by omega))]; exact (c s hs i hi).2.2.1
  · rw [hf.1 _ _ (hd _ _ (by omega) (by omega))]; exact (c s hs i hi).2.2.2
/-- a step of the search, to p from p' -/
def StpR (v : WV) (R : Nat → Nat → Nat) (g n : Nat) (f : Nat → Nat) (how p p' : Nat) : Prop :=
  (how = 2 ∧ p' + 1 = p ∧ 0 < p % 25 ∧ f (150 + p') < holdsS v (p / 25) (vT v + (p % 25 - 1))) ∨
  (how = 3 ∧ p' = p + 1 ∧ p % 25 + 1 ≤ n ∧ 0 < f (150 + p)) ∨
  (∃ l i, l < vL v ∧ how = 10 + l ∧ p = 25 * vl v l 2 + (i + takesL v l) ∧ p' = 25 * vl v l 1 + i ∧ i + takesL v l ≤ n ∧ vl v l 1 ≠ g ∧ vl v l 2 ≠ g ∧ f (300 + (25 * l + i)) < R l i) ∨
  (∃ l i, l < vL v ∧ how = 30 + l ∧ p = 25 * vl v l 1 + i ∧ p' = 25 * vl v l 2 + (i + takesL v l) ∧ i + takesL v l ≤ n ∧ vl v l 1 ≠ g ∧ vl v l 2 ≠ g ∧ 0 < f (300 + (25 * l + i)))
def SIv (v : WV) (R : Nat → Nat → Nat) (g n : Nat) (f : Nat → Nat) (σ : SB) : Prop :=
  (∀ p, p < 25 * vS v → bB σ p ≠ 0 → p / 25 ≠ g ∧ p % 25 ≤ n ∧ bB σ p < 100 ∧ bR σ p < bM σ ∧ bQ σ (bR σ p) = p ∧ ((bB σ p = 1 ∧ f p < cmV v (p / 25) (p % 25)) ∨ (bB σ p ≠ 1 ∧ bP σ p < 25 * vS v ∧ bB σ (bP σ p) ≠ 0 ∧ bR σ (bP σ p) < bR σ p ∧ StpR v R g n f (bB σ p) p (bP σ p)))) ∧
  (∀ k, k < bM σ → bQ σ k < 25 * vS v ∧ bB σ (bQ σ k) ≠ 0) ∧
  bM σ + sm (fun p => if bB σ p = 0 then 1 else 0) (25 * vS v) = 25 * vS v
def SIh (v : WV) (σ : SB) (h : HP) : Prop := (∀ p, p < 25 * vS v → gi h 132 p = nI (bB σ p)) ∧ (∀ k, k < bM σ → gi h 133 k = nI (bQ σ k)) ∧ gi h 117 20 = nI (bM σ)
def SMo (v : WV) (σ σ' : SB) : Prop := (∀ p, p < 25 * vS v → bB σ p ≠ 0 → bB σ' p ≠ 0) ∧ bM σ ≤ bM σ' ∧ ∀ k, k < bM σ → bQ σ' k = bQ σ k
theorem SMo.rf {v : WV} {σ : SB} : SMo v σ σ := ⟨fun _ _ q => q, Nat.le_refl _, fun _ _ => rfl⟩
theorem SMo.trans {v : WV} {σ σ1 σ2 : SB} (a : SMo v σ σ1) (b : SMo v σ1 σ2) : SMo v σ σ2 := ⟨fun p hp q => b.1 p hp (a.1 p hp q), Nat.le_trans a.2.1 b.2.1, fun k hk => (b.2.2 k (Nat.lt_of_lt_of_le hk a.2.1)).trans (a.2.2 k hk)⟩
abbrev cellsB : Nat → Nat → Prop := fun a k => a = 132 ∨ a = 133 ∨ (a = 117 ∧ k = 20)
section Se
variable {v : WV} {R : Nat → Nat → Nat} {g n : Nat} {f : Nat → Nat} {σ : SB} {h : HP}
theorem m_meets {Q : HP → Prop} {p p' how : Nat} (h6 : vS v ≤ 6) (hv : SIv v R g n f σ) (hh : SIh v σ h) (hp : p < 25 * vS v) (hg : p / 25 ≠ g) (hn : p % 25 ≤ n) (hw : 0 < how) (hw2 : how < 100) (hj : (how = 1 ∧ f p < cmV v (p / 25) (p % 25)) ∨ (how ≠ 1 ∧ p' < 25 * vS v ∧ bB σ p' ≠ 0 ∧ StpR v R g n f how p p')) (hQ : ∀ σ' h', SIv v R g n f σ' → SIh v σ' h' → SMo v σ σ' → bB σ' p ≠ 0 → FrI cellsB h h' → Q h') : f_X8_meets (nI p) (nI how) h Q := by
  unfold f_X8_meets
  rw [ix_nI (by omega), hh.1 p hp]
  have hvp : vp_in (nI p) 150 := vp_in_nI (by omega) (by decide)
  refine ⟨hvp, ?_⟩
  by_cases q : bB σ p = 0
  · refine ⟨fun _ => ⟨hvp, ?_⟩, fun z => absurd (by rw [q]; rfl) z⟩
    intro h4 e4
    have hm : bM σ < 25 * vS v := by
      have h1 := hv.2.2
      have h2 := sm_le (f := fun p => if bB σ p = 0 then 1 else 0) hp
      simp only [q, if_pos] at h2
      omega
    have g1 : gi h4 117 20 = nI (bM σ) := by rw [e4, gi_si, if_neg (by omega)]; exact hh.2.2
    rw [g1]
    refine ⟨vp_in_nI (by omega) (by decide), ?_⟩
    intro h6' e6 h7 e7
    rw [ix_nI (by omega)] at e6
    have g2 : gi h6' 117 20 = nI (bM σ) := by rw [e6, gi_si, if_neg (by omega)]; exact g1
    rw [g2, nI_1] at e7
    have f1 : FrI cellsB h h4 := by rw [e4]; exact FrI.si (Or.inl rfl)
    have f2 : FrI cellsB h4 h6' := by rw [e6]; exact FrI.si (Or.inr (Or.inl rfl))
    have f3 : FrI cellsB h6' h7 := by rw [e7]; exact FrI.si (Or.inr (Or.inr ⟨rfl, rfl⟩))
    obtain ⟨v1, v2, v3⟩ := hv
    refine hQ (upN (bB σ) p how, upN (bQ σ) (bM σ) p, upN (bR σ) p (bM σ), upN (bP σ) p p', bM σ + 1) h7 ⟨fun p1 hp1 hb1 => ?_, fun k hk => ?_, ?_⟩ ⟨fun p1 hp1 => ?_, fun k hk => ?_, ?_⟩ ⟨fun p1 hp1 hb1 => ?_, Nat.le_succ _, fun k hk => ?_⟩ ?_ ((f1.trans f2).trans f3)
    · show p1 / 25 ≠ g ∧ p1 % 25 ≤ n ∧ upN (bB σ) p how p1 < 100 ∧ upN (bR σ) p (bM σ) p1 < bM σ + 1 ∧ upN (bQ σ) (bM σ) p (upN (bR σ) p (bM σ) p1) = p1 ∧ _
      by_cases e : p1 = p
      · subst e
        refine ⟨hg, hn, by rw [upN_eq]; exact hw2, by rw [upN_eq]; omega, by rw [upN_eq, upN_eq], ?_⟩
        show (upN (bB σ) p1 how p1 = 1 ∧ _) ∨ (upN (bB σ) p1 how p1 ≠ 1 ∧ upN (bP σ) p1 p' p1 < _ ∧ upN (bB σ) p1 how (upN (bP σ) p1 p' p1) ≠ 0 ∧ upN (bR σ) p1 (bM σ) (upN (bP σ) p1 p' p1) < upN (bR σ) p1 (bM σ) p1 ∧ StpR v R g n f (upN (bB σ) p1 how p1) p1 (upN (bP σ) p1 p' p1))
        rw [upN_eq, upN_eq, upN_eq]
        rcases hj with hj | ⟨j1, j2, j3, j4⟩
        · exact Or.inl hj
        · have ne : p' ≠ p1 := fun z => j3 (by rw [z]; exact q)
          refine Or.inr ⟨j1, j2, by rw [upN_ne ne]; exact j3, by rw [upN_ne ne]; exact (v1 p' j2 j3).2.2.2.1, j4⟩
      · have hb1' : bB σ p1 ≠ 0 := by
          have : upN (bB σ) p how p1 ≠ 0 := hb1
          rw [upN_ne e] at this; exact this
        obtain ⟨w1, w2, w3, w4, w5, w6⟩ := v1 p1 hp1 hb1'
        refine ⟨w1, w2, by rw [upN_ne e]; exact w3, by rw [upN_ne e]; omega, by rw [upN_ne e, upN_ne (by omega)]; exact w5, ?_⟩
        show (upN (bB σ) p how p1 = 1 ∧ _) ∨ (upN (bB σ) p how p1 ≠ 1 ∧ upN (bP σ) p p' p1 < _ ∧ upN (bB σ) p how (upN (bP σ) p p' p1) ≠ 0 ∧ upN (bR σ) p (bM σ) (upN (bP σ) p p' p1) < upN (bR σ) p (bM σ) p1 ∧ StpR v R g n f (upN (bB σ) p how p1) p1 (upN (bP σ) p p' p1))
        rw [upN_ne e, upN_ne e, upN_ne e]
        rcases w6 with w6 | ⟨j1, j2, j3, j4, j5⟩
        · exact Or.inl w6
        · have ne : bP σ p1 ≠ p := fun z => j3 (by rw [z]; exact q)
          exact Or.inr ⟨j1, j2, by rw [upN_ne ne]; exact j3, by rw [upN_ne ne]; exact j4, j5⟩
    · show upN (bQ σ) (bM σ) p k < _ ∧ upN (bB σ) p how (upN (bQ σ) (bM σ) p k) ≠ 0
      have hk' : k < bM σ + 1 := hk
      by_cases e : k = bM σ
      · rw [e, upN_eq, upN_eq]; exact ⟨hp, by omega⟩
      · rw [upN_ne e]
        have := v2 k (by omega)
        refine ⟨this.1, ?_⟩
        by_cases e2 : bQ σ k = p
        · rw [e2, upN_eq]; omega
        · rw [upN_ne e2]; exact this.2
    · show bM σ + 1 + sm (fun x => if upN (bB σ) p how x = 0 then 1 else 0) (25 * vS v) = 25 * vS v
      have := sm_up (F := fun x => if upN (bB σ) p how x = 0 then 1 else 0) (G := fun x => if bB σ x = 0 then 1 else 0) hp (fun i _ hi => by rw [upN_ne hi])
      simp only [upN_eq, q, if_pos] at this
      rw [if_neg (show ¬ how = 0 by omega)] at this
      omega
    · show gi h7 132 p1 = nI (upN (bB σ) p how p1)
      rw [e7, gi_si, if_neg (by omega), e6, gi_si, if_neg (by omega), e4, gi_si]
      by_cases e : p1 = p
      · rw [if_pos ⟨rfl, e⟩, e, upN_eq]
      · rw [if_neg (fun z => e z.2), upN_ne e]; exact hh.1 p1 hp1
    · show gi h7 133 k = nI (upN (bQ σ) (bM σ) p k)
      have hk' : k < bM σ + 1 := hk
      rw [e7, gi_si, if_neg (by omega), e6, gi_si]
      by_cases e : k = bM σ
      · rw [if_pos ⟨rfl, e⟩, e, upN_eq]
      · rw [if_neg (fun z => e z.2), upN_ne e, e4, gi_si, if_neg (by omega)]; exact hh.2.1 k (by omega)
    · show gi h7 117 20 = nI (bM σ + 1)
      rw [e7, gi_si, if_pos ⟨rfl, rfl⟩]
    · show upN (bB σ) p how p1 ≠ 0
      by_cases e : p1 = p
      · rw [e, upN_eq]; omega
      · rw [upN_ne e]; exact hb1
    · show upN (bQ σ) (bM σ) p k = bQ σ k
      rw [upN_ne (by omega)]
    · show upN (bB σ) p how p ≠ 0
      rw [upN_eq]; omega
  · have hb := (hv.1 p hp q).2.2.1
    refine ⟨fun z => absurd (nI_inj (b := 0) (by omega) (by omega) z) q, fun _ => ?_⟩
    exact hQ σ h hv hh SMo.rf q FrI.rf
end Se
