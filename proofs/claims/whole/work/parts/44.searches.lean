/-! the reference's whole search, and what it shows -/
theorem sm_ones : ∀ n, sm (fun _ => 1) n = n
  | 0 => rfl
  | n + 1 => by rw [sm, sm_ones n]
def Fin1 (v : WV) (g n : Nat) (f : Nat → Nat) (σ : SB) : Prop := ∀ s, s < vS v → s ≠ g → ∀ i, i ≤ n → f (25 * s + i) < cmV v s i → bB σ (25 * s + i) ≠ 0
section Se
variable {v : WV} {R : Nat → Nat → Nat} {g n m B : Nat} {f : Nat → Nat} {σ σ' : SB} {h : HP}
theorem m_searches {Q : Int32 → HP → Prop} (hF : WF m B v) (hg : g < vS v) (hn : n ≤ 24) (hfB : fB R f) (hM : HM v h) (hR : RS v R f h)
    (hQ1 : ∀ σ' h', SIv v R g n f σ' → SIh v σ' h' → FrI cellsB h h' → Fin1 v g n f σ' → (∀ p, p < 25 * vS v → bB σ' p ≠ 0 → Out v R g n f σ' p) → Q (-1) h')
    (hQ2 : ∀ p l σ' h', SIv v R g n f σ' → SIh v σ' h' → FrI cellsB h h' → p < 25 * vS v → bB σ' p ≠ 0 → l < vL v → vl v l 1 = p / 25 → vl v l 2 = g → p % 25 + takesL v l ≤ n → f (300 + (25 * l + p % 25)) < R l (p % 25) → Q (nI (10 * p + l)) h') : f_X8_searches (nI g) (nI n) h Q := by
  have h6 := hF.1
  unfold f_X8_searches
  intro h1 e1
  have f1 : FrI cellsB h h1 := by rw [e1]; exact FrI.si (Or.inr (Or.inr ⟨rfl, rfl⟩))
  have g1 : gi h1 117 20 = nI 0 := by rw [e1, gi_si, if_pos ⟨rfl, rfl⟩]; rfl
  -- the search proper
  have third : ∀ σ1 h1, SIv v R g n f σ1 → SIh v σ1 h1 → FrI cellsB h h1 → Fin1 v g n f σ1 → ∃ c, f_X8_searches_L111 (nI g) (nI n) Q c (-1) 0 h1 := by
    intro σ1 h1 k1 k2 k4 k5
    have key := loop_up (L := fun c i => 0 < c ∧ ∀ σ1 h1, SIv v R g n f σ1 → SIh v σ1 h1 → FrI cellsB h h1 → Fin1 v g n f σ1 → (∀ k, k < i → k < bM σ1 → Out v R g n f σ1 (bQ σ1 k)) → f_X8_searches_L111 (nI g) (nI n) Q c (-1) (nI i) h1) (25 * vS v) 0 (by omega) (fun c => ⟨by omega, fun σ1 h1 k1 k2 k4 k5 k6 => ?_⟩) (fun i c _ hi ih => ⟨by omega, fun σ1 h1 k1 k2 k4 k5 k6 => ?_⟩)
    · obtain ⟨c, hc⟩ := key
      exact ⟨c, hc.2 σ1 h1 k1 k2 k4 k5 (fun l hl => by omega)⟩
    · unfold f_X8_searches_L111
      have hm : bM σ1 ≤ 25 * vS v := by have := k1.2.2; omega
      rw [k2.2.2]
      refine br_le (by omega) (by omega) (fun _ => ?_) (fun z => by omega)
      exact hQ1 σ1 h1 k1 k2 k4 k5 (fun p hp hb => by have w := k1.1 p hp hb; have := k6 (bR σ1 p) (by omega) w.2.2.2.1; rw [w.2.2.2.2.1] at this; exact this)
    · unfold f_X8_searches_L111
      have hm : bM σ1 ≤ 25 * vS v := by have := k1.2.2; omega
      rw [k2.2.2]
      refine br_le (by omega) (by omega) (fun z => ?_) (fun z => ?_)
      · exact hQ1 σ1 h1 k1 k2 k4 k5 (fun p hp hb => by have w := k1.1 p hp hb; have := k6 (bR σ1 p) (by omega) w.2.2.2.1; rw [w.2.2.2.2.1] at this; exact this)
      · refine ⟨fun q => absurd q (by decide +kernel), fun _ => ⟨vp_in_nI (by omega) (by decide), ?_⟩⟩
        rw [ix_nI (by omega), k2.2.1 i z]
        have kq := k1.2.1 i z
        refine m_spreads hF hg hn hfB (hM.fb k4) (hR.fb k4) k1 k2 kq.1 kq.2 (fun σ2 h2 j1 j2 j3 j4 j5 => ?_) (fun l σ2 h2 j1 j2 j3 j4 j5 j6 j7 j8 j9 => ?_)
        · intro x ex
          rw [ex, nI_1]
          refine ih.2 σ2 h2 j1 j2 (k4.trans j4) (fun s hs hsg i hi hf => j3.1 _ (by omega) (k5 s hs hsg i hi hf)) (fun k hk hkm => ?_)
          by_cases e : k = i
          · rw [e, j3.2.2 i z]; exact j5
          · have : k < bM σ1 := by omega
            rw [j3.2.2 k this]
            exact (k6 k (by omega) this).mono hF hn (k1.2.1 k this).1 j3
        · intro x ex
          obtain ⟨c', rfl⟩ : ∃ c', c = c' + 1 := ⟨c - 1, by omega⟩
          have hq := hQ2 (bQ σ1 i) l σ2 h2 j1 j2 (k4.trans j4) kq.1 (j3.1 _ kq.1 kq.2) j5 j6 j7 j8 j9
          unfold f_X8_searches_L111
          refine ⟨fun _ => hq, fun _ => ⟨fun _ => hq, fun z2 => absurd (nI_le (a := 0) (by omega) (by omega)) z2⟩⟩
  -- the pairs that have something over
  have second : ∀ σ1 h1, SIv v R g n f σ1 → SIh v σ1 h1 → FrI cellsB h h1 → ∃ c, f_X8_searches_L33 (nI g) (nI n) (fun h19 => ∃ n26, f_X8_searches_L111 (nI g) (nI n) Q n26 (-1) 0 h19) Q c 0 h1 := by
    intro σ1 h1 k1 k2 k4
    have key := loop_up (L := fun c s => ∀ σ1 h1, SIv v R g n f σ1 → SIh v σ1 h1 → FrI cellsB h h1 → (∀ s', s' < s → s' ≠ g → ∀ i, i ≤ n → f (25 * s' + i) < cmV v s' i → bB σ1 (25 * s' + i) ≠ 0) → f_X8_searches_L33 (nI g) (nI n) (fun h19 => ∃ n26, f_X8_searches_L111 (nI g) (nI n) Q n26 (-1) 0 h19) Q c (nI s) h1) (vS v) 0 (by omega) (fun c σ1 h1 k1 k2 k4 k5 => ?_) (fun s c _ hs ih σ1 h1 k1 k2 k4 k5 => ?_)
    · obtain ⟨c, hc⟩ := key
      exact ⟨c, hc σ1 h1 k1 k2 k4 (fun l hl => by omega)⟩
    · unfold f_X8_searches_L33
      rw [(hM.fb k4).1.2.2.1]
      exact br_le (by omega) (by omega) (fun _ => third σ1 h1 k1 k2 k4 k5) (fun z => by omega)
    · unfold f_X8_searches_L33
      rw [(hM.fb k4).1.2.2.1]
      refine br_le (by omega) (by omega) (fun z => by omega) (fun _ => ?_)
      have key2 := loop_up (L := fun c2 i => ∀ σ1 h1, SIv v R g n f σ1 → SIh v σ1 h1 → FrI cellsB h h1 → (∀ s', s' < s → s' ≠ g → ∀ i, i ≤ n → f (25 * s' + i) < cmV v s' i → bB σ1 (25 * s' + i) ≠ 0) → (s ≠ g → ∀ i', i' < i → f (25 * s + i') < cmV v s i' → bB σ1 (25 * s + i') ≠ 0) → f_X8_searches_L44 (nI g) (nI n) (nI s) (fun h16 => ∀ x3_17 : Int32, x3_17 = (nI s + 1) → f_X8_searches_L33 (nI g) (nI n) (fun h19 => ∃ n26, f_X8_searches_L111 (nI g) (nI n) Q n26 (-1) 0 h19) Q c x3_17 h16) Q c2 (nI i) h1) (n + 1) 0 (by omega) (fun c2 σ1 h1 k1 k2 k4 k5 k6 => ?_) (fun i c2 _ hi ih2 σ1 h1 k1 k2 k4 k5 k6 => ?_)
      · obtain ⟨c2, hc2⟩ := key2
        exact ⟨c2, hc2 σ1 h1 k1 k2 k4 k5 (fun _ i hi => by omega)⟩
      · unfold f_X8_searches_L44
        refine br_lt (by omega) (by omega) (fun _ => ?_) (fun z => by omega)
        intro x ex
        rw [ex, nI_1]
        refine ih σ1 h1 k1 k2 k4 (fun s' hs' hg' i hi hf => ?_)
        by_cases e : s' = s
        · rw [e] at hg' hf ⊢; exact k6 hg' i (by omega) hf
        · exact k5 s' (by omega) hg' i hi hf
      · unfold f_X8_searches_L44
        refine br_lt (by omega) (by omega) (fun z => by omega) (fun _ => ?_)
        refine br_eq (by omega) (by omega) (fun z => ?_) (fun z => ?_)
        · intro x ex
          rw [ex, nI_1]
          refine ih σ1 h1 k1 k2 k4 (fun s' hs' hg' i hi hf => ?_)
          by_cases e : s' = s
          · exact absurd (e.trans z) hg'
          · exact k5 s' (by omega) hg' i hi hf
        · have hRr := (hR.fb k4).2.2 s hs i (by omega)
          rw [lit 25, nI_mul, nI_add, ix_nI (by omega), hRr.2.1, hRr.2.2.1]
          refine ⟨vp_in_nI (by omega) (by decide), vp_in_nI (by omega) (by decide), ?_⟩
          have b1 := cmV_le hF (i := i) hs
          have b2 := hfB.2 (25 * s + i)
          have w1 : (25 * s + i) / 25 = s := by omega
          have w2 : (25 * s + i) % 25 = i := by omega
          refine br_le (by omega) (by omega) (fun z2 => ?_) (fun z2 => ?_)
          · intro x ex
            rw [ex, nI_1 i]
            refine ih2 σ1 h1 k1 k2 k4 k5 (fun hsg i' hi' hf => ?_)
            by_cases e : i' = i
            · rw [e] at hf; omega
            · exact k6 hsg i' (by omega) hf
          · refine m_meets (p := 25 * s + i) (p' := 0) (how := 1) h6.2.1 k1 k2 (by omega) (by omega) (by omega) (by omega) (by omega) (Or.inl ⟨rfl, by rw [w1, w2]; exact z2⟩) (fun σ2 h2 j1 j2 j3 j4 j5 => ?_)
            intro x ex
            rw [ex, nI_1 i]
            refine ih2 σ2 h2 j1 j2 (k4.trans j5) (fun s' hs' hg' i hi hf => j3.1 _ (by omega) (k5 s' hs' hg' i hi hf)) (fun hsg i' hi' hf => ?_)
            by_cases e : i' = i
            · rw [e]; exact j4
            · exact j3.1 _ (by omega) (k6 hsg i' (by omega) hf)
  have key := loop_up (L := fun c i => ∀ h1, FrI cellsB h h1 → gi h1 117 20 = nI 0 → (∀ p, p < i → gi h1 132 p = nI 0) → f_X8_searches_L7 (nI g) (nI n) (fun h6 => ∃ n27, f_X8_searches_L33 (nI g) (nI n) (fun h19 => ∃ n26, f_X8_searches_L111 (nI g) (nI n) Q n26 (-1) 0 h19) Q n27 0 h6) Q c (nI i) h1) (25 * vS v) 0 (by omega) (fun c h1 k1 k2 k3 => ?_) (fun i c _ hi ih h1 k1 k2 k3 => ?_)
  · obtain ⟨c, hc⟩ := key
    exact ⟨c, hc h1 f1 g1 (fun p hp => by omega)⟩
  · unfold f_X8_searches_L7
    rw [(hM.fb k1).1.2.2.1, lit 25, nI_mul]
    refine br_le (by omega) (by omega) (fun _ => ?_) (fun z => by omega)
    refine second (fun _ => 0, fun _ => 0, fun _ => 0, fun _ => 0, 0) h1 ⟨fun p _ q => absurd rfl q, fun k hk => absurd hk (Nat.not_lt_zero k), ?_⟩ ⟨k3, fun k hk => absurd hk (Nat.not_lt_zero k), k2⟩ k1
    show 0 + sm (fun _ => 1) (25 * vS v) = 25 * vS v
    rw [sm_ones]; omega
  · unfold f_X8_searches_L7
    rw [(hM.fb k1).1.2.2.1, lit 25, nI_mul]
    refine br_le (by omega) (by omega) (fun z => by omega) (fun _ => ⟨vp_in_nI (by omega) (by decide), ?_⟩)
    intro h4 e4 x ex
    rw [ex, nI_1]
    rw [ix_nI (by omega)] at e4
    have f4 : FrI cellsB h1 h4 := by rw [e4]; exact FrI.si (Or.inl rfl)
    refine ih h4 (k1.trans f4) (by rw [e4, gi_si, if_neg (by omega)]; exact k2) (fun p hp => ?_)
    rw [e4, gi_si]
    by_cases e : p = i
    · rw [if_pos ⟨rfl, e⟩]; rfl
    · rw [if_neg (fun z => e z.2)]; exact k3 p (by omega)
/-- the near side -/
def nrT (v : WV) (σ : SB) (w : Nat) : Bool := decide (w = 151 ∨ (w < 150 ∧ w % 6 < vS v ∧ bB σ (25 * (w % 6) + w / 6) ≠ 0))
theorem nrT_nd {s i : Nat} (hs : s < 6) (hi : i < 25) (hg : s ≠ g) : nrT v σ (nd g s i) = true ↔ s < vS v ∧ bB σ (25 * s + i) ≠ 0 := by
  have e1 : (6 * i + s) % 6 = s := by omega
  have e2 : (6 * i + s) / 6 = i := by omega
  unfold nrT nd
  rw [if_neg hg, e1, e2, decide_eq_true_iff]
  constructor
  · intro q; rcases q with q | q
    · omega
    · exact q.2
  · intro q; exact Or.inr ⟨by omega, q⟩
theorem nrT_1 : nrT v σ 151 = true := by simp [nrT]
theorem nrT_0 : nrT v σ 150 = false := by simp [nrT]
theorem srch_clo (hF : WF m B v) (hn : n ≤ 24) (hfl : ∀ a, a < 550 → f a ≤ nC (tn v R g n) a) (hv : SIv v R g n f σ) (hfi : Fin1 v g n f σ) (ho : ∀ p, p < 25 * vS v → bB σ p ≠ 0 → Out v R g n f σ p) : Clo (tn v R g n) 151 f (nrT v σ) := by
  have h6 := hF.1
  refine ⟨nrT_1, fun a ha => ?_⟩
  have hle := hfl a ha
  rcases arc3 ha with ⟨s, i, hs, hi, rfl⟩ | ⟨s, i, hs, hi, rfl⟩ | ⟨l, i, hl, hi, rfl⟩
  · obtain ⟨e1, e2, e3⟩ := tn_s (v := v) (R := R) (g := g) (n := n) hs hi
    rw [e3] at hle ⊢
    rw [e1, e2]
    refine ⟨fun q _ => ?_, fun _ _ => nrT_1⟩
    have hv' : s < vS v ∧ s ≠ g ∧ i ≤ n := by
      apply Decidable.byContradiction
      intro z; rw [if_neg z] at q; omega
    rw [if_pos hv'] at q
    exact (nrT_nd hs hi hv'.2.1).mpr ⟨hv'.1, hfi s hv'.1 hv'.2.1 i hv'.2.2 q⟩
  · obtain ⟨e1, e2, e3⟩ := tn_y (v := v) (R := R) (g := g) (n := n) hs hi
    rw [e3] at hle ⊢
    rw [e1, e2]
    have w1 : (25 * s + i) / 25 = s := by omega
    have w2 : (25 * s + i) % 25 = i := by omega
    by_cases hv' : s < vS v ∧ s ≠ g ∧ i < n
    · rw [if_pos hv'] at hle ⊢
      rw [nrT_nd hs hi hv'.2.1, nrT_nd (i := i + 1) hs (by omega) hv'.2.1]
      refine ⟨fun q z => ⟨hv'.1, ?_⟩, fun q z => ⟨hv'.1, ?_⟩⟩
      · have := (ho (25 * s + i) (by omega) z.2).2.1.1
        rw [w1, w2] at this
        exact this hv'.2.2 q
      · have := (ho (25 * s + (i + 1)) (by omega) z.2).2.1.2
        rw [show 25 * s + (i + 1) - 1 = 25 * s + i by omega] at this
        exact this (by omega) q
    · rw [if_neg hv'] at hle ⊢
      exact ⟨fun q => by omega, fun q => by omega⟩
  · obtain ⟨e1, e2, e3⟩ := tn_l (v := v) (R := R) (g := g) (n := n) (l := l) hi
    rw [e3] at hle ⊢
    rw [e1, e2]
    by_cases hv' : l < vL v ∧ vl v l 1 ≠ g ∧ i + takesL v l ≤ n
    · rw [if_pos hv'] at hle ⊢
      have hl' := hF.2.2.1 l hv'.1
      have w1 : (25 * vl v l 1 + i) / 25 = vl v l 1 := by omega
      have w2 : (25 * vl v l 1 + i) % 25 = i := by omega
      rw [nrT_nd (by omega) hi hv'.2.1]
      refine ⟨fun q z => ?_, fun q z => ⟨by omega, ?_⟩⟩
      · have := (ho (25 * vl v l 1 + i) (by omega) z.2).1 l hv'.1
        unfold OuF at this
        rw [w1, w2] at this
        have w := this rfl hv'.2.2 q
        exact (nrT_nd (by omega) (by omega) w.1).mpr ⟨by omega, w.2⟩
      · by_cases hto : vl v l 2 = g
        · unfold nd at z; rw [if_pos hto, nrT_0] at z; cases z
        · have z' := (nrT_nd (by omega) (by omega) hto).mp z
          have := (ho (25 * vl v l 2 + (i + takesL v l)) (by omega) z'.2).2.2 l hv'.1
          unfold OuB at this
          rw [show (25 * vl v l 2 + (i + takesL v l)) / 25 = vl v l 2 by omega, show (25 * vl v l 2 + (i + takesL v l)) % 25 = i + takesL v l by omega, Nat.add_sub_cancel] at this
          exact this rfl (by omega) hv'.2.1 q
    · rw [if_neg hv'] at hle ⊢
      exact ⟨fun q => by omega, fun q => by omega⟩
def ndp (g p : Nat) : Nat := nd g (p / 25) (p % 25)
/-- the arc of a step -/
def arO (how p p' : Nat) : Nat := if how = 2 then 150 + p' else if how = 3 then 150 + p else if how < 30 then 300 + (25 * (how - 10) + p' % 25) else 300 + (25 * (how - 30) + p % 25)
theorem stp_arc (hF : WF m B v) (hn : n ≤ 24) {how p p' : Nat} (hp : p < 25 * vS v) (hp' : p' < 25 * vS v) (hg : p / 25 ≠ g) (hg' : p' / 25 ≠ g) (hin : p % 25 ≤ n) (hin' : p' % 25 ≤ n) (hs : StpR v R g n f how p p') : arO how p p' < 550 ∧ (((how = 3 ∨ 30 ≤ how) ∧ 0 < f (arO how p p') ∧ nT (tn v R g n) (arO how p p') = ndp g p ∧ nH (tn v R g n) (arO how p p') = ndp g p') ∨ (¬ (how = 3 ∨ 30 ≤ how) ∧ f (arO how p p') < nC (tn v R g n) (arO how p p') ∧ nT (tn v R g n) (arO how p p') = ndp g p' ∧ nH (tn v R g n) (arO how p p') = ndp g p)) := by
  have h6 := hF.1
  unfold arO ndp
  rcases hs with ⟨rfl, s2, s3, s4⟩ | ⟨rfl, s2, s3, s4⟩ | ⟨l, i, hl, rfl, e1, e2, s3, s4, s5, s6⟩ | ⟨l, i, hl, rfl, e1, e2, s3, s4, s5, s6⟩
  · rw [if_pos rfl]
    obtain ⟨a1, a2, a3⟩ := tn_y (v := v) (R := R) (g := g) (n := n) (s := p' / 25) (i := p' % 25) (by omega) (by omega)
    rw [show 25 * (p' / 25) + p' % 25 = p' by omega] at a1 a2 a3
    refine ⟨by omega, Or.inr ⟨by omega, ?_, a1, ?_⟩⟩
    · rw [a3, if_pos ⟨by omega, by omega, by omega⟩]
      have w1 : p' / 25 = p / 25 := by omega
      have w2 : p' % 25 = p % 25 - 1 := by omega
      rw [w1, w2]; exact s4
    · rw [a2]; congr 1 <;> omega
  · rw [if_neg (by omega), if_pos rfl]
    obtain ⟨a1, a2, a3⟩ := tn_y (v := v) (R := R) (g := g) (n := n) (s := p / 25) (i := p % 25) (by omega) (by omega)
    rw [show 25 * (p / 25) + p % 25 = p by omega] at a1 a2 a3
    refine ⟨by omega, Or.inl ⟨by omega, s4, a1, ?_⟩⟩
    rw [a2]; congr 1 <;> omega
  · have hl' := hF.2.2.1 l hl
    have w1 : p' % 25 = i := by omega
    have w2 : p' / 25 = vl v l 1 := by omega
    have w3 : p % 25 = i + takesL v l := by omega
    have w4 : p / 25 = vl v l 2 := by omega
    rw [if_neg (by omega), if_neg (by omega), if_pos (by omega), w1, w2, w3, w4, Nat.add_sub_cancel_left]
    obtain ⟨a1, a2, a3⟩ := tn_l (v := v) (R := R) (g := g) (n := n) (l := l) (i := i) (by omega)
    refine ⟨by omega, Or.inr ⟨by omega, ?_, a1, a2⟩⟩
    rw [a3, if_pos ⟨hl, s4, s3⟩]; exact s6
  · have hl' := hF.2.2.1 l hl
    have w1 : p % 25 = i := by omega
    have w2 : p / 25 = vl v l 1 := by omega
    have w3 : p' % 25 = i + takesL v l := by omega
    have w4 : p' / 25 = vl v l 2 := by omega
    rw [if_neg (by omega), if_neg (by omega), if_neg (by omega), w1, w2, w3, w4, Nat.add_sub_cancel_left]
    obtain ⟨a1, a2, a3⟩ := tn_l (v := v) (R := R) (g := g) (n := n) (l := l) (i := i) (by omega)
    exact ⟨by omega, Or.inl ⟨by omega, s6, a1, a2⟩⟩
theorem srch_least (hF : WF m B v) (hn : n ≤ 24) (hv : SIv v R g n f σ) : ∀ T2, Clo (tn v R g n) 151 f T2 → ∀ w, nrT v σ w = true → T2 w = true := by
  intro T2 hT w hw
  have h6 := hF.1
  have key : ∀ r p, p < 25 * vS v → bB σ p ≠ 0 → bR σ p < r → T2 (ndp g p) = true := by
    intro r
    induction r with
    | zero => intro p _ _ z; omega
    | succ r ih =>
      intro p hp hb hr
      obtain ⟨v1, v2, v3, v4, v5, v6⟩ := hv.1 p hp hb
      rcases v6 with ⟨_, q2⟩ | ⟨q1, q2, q3, q4, q5⟩
      · obtain ⟨a1, a2, a3⟩ := tn_s (v := v) (R := R) (g := g) (n := n) (s := p / 25) (i := p % 25) (by omega) (by omega)
        rw [show 25 * (p / 25) + p % 25 = p by omega] at a1 a2 a3
        have := (hT.2 p (by show p < 550; omega)).1
        rw [a1, a2, a3, if_pos ⟨by omega, v1, v2⟩] at this
        exact this q2 hT.1
      · have u := hv.1 _ q2 q3
        obtain ⟨b1, b2⟩ := stp_arc hF hn hp q2 v1 u.1 v2 u.2.1 q5
        have i1 := ih _ q2 q3 (by omega)
        have c := hT.2 _ b1
        rcases b2 with ⟨_, c2, c3, c4⟩ | ⟨_, c2, c3, c4⟩
        · rw [c3, c4] at c; exact c.2 c2 i1
        · rw [c3, c4] at c; exact c.1 c2 i1
  unfold nrT at hw
  rw [decide_eq_true_iff] at hw
  rcases hw with rfl | ⟨w1, w2, w3⟩
  · exact hT.1
  · have := key (bR σ (25 * (w % 6) + w / 6) + 1) _ (by omega) w3 (by omega)
    have hgg := (hv.1 _ (by omega) w3).1
    unfold ndp nd at this
    rw [if_neg hgg] at this
    rw [show 6 * ((25 * (w % 6) + w / 6) % 25) + (25 * (w % 6) + w / 6) / 25 = w by omega] at this
    exact this
end Se
