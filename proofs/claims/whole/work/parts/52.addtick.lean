/-! a tick is put into the class's network -/
def NT (N : NW) (A : Nat) (σ en lf : Nat → Nat) (Z : Nat → Prop) (h : HP) : Prop :=
  AR (2 * A) (fun e => en (xr e)) en lf h ∧ PS N A σ en lf ∧ PC N A σ Z ∧ Flw (NP A en lf) 151 150 (fP lf) ∧ ∀ j, j < A → gi h 93 j = oww (σ j)
theorem AR.congr {a : Nat} {t t' en lf : Nat → Nat} {h : HP} (hA : AR a t en lf h) (e : ∀ i, i < a → t i = t' i) : AR a t' en lf h := by
  obtain ⟨a1, b, c⟩ := hA
  refine ⟨a1, fun i hi => ?_, fun w hw => ?_⟩
  · rw [← e i hi, ← pv_congr (t := t) (t' := t') (m := i) (fun j hj => e j (by omega))]; exact b i hi
  · rw [← pv_congr (t := t) (t' := t') (m := a) e]; exact c w hw
theorem PC.weaken {N : NW} {A : Nat} {σ : Nat → Nat} {Z Z' : Nat → Prop} (h : PC N A σ Z) (h1 : ∀ a, a < 550 → 0 < nC N a → ¬ Z' a → ¬ Z a) (h2 : ∀ a, Z' a → Z a) : PC N A σ Z' := ⟨fun a ha hc hz => h.1 a ha hc (h1 a ha hc hz), fun j hj z => h.2 j hj (h2 _ z)⟩
theorem NT.weaken {N : NW} {A : Nat} {σ en lf : Nat → Nat} {Z Z' : Nat → Prop} {h : HP} (hT : NT N A σ en lf Z h) (h1 : ∀ a, a < 550 → 0 < nC N a → ¬ Z' a → ¬ Z a) (h2 : ∀ a, Z' a → Z a) : NT N A σ en lf Z' h := ⟨hT.1, hT.2.1, hT.2.2.1.weaken h1 h2, hT.2.2.2⟩
theorem NT.frame {P : Nat → Nat → Prop} {N : NW} {A : Nat} {σ en lf : Nat → Nat} {Z : Nat → Prop} {h h' : HP} (hT : NT N A σ en lf Z h) (hf : FrI P h h') (hd : ∀ x k, cellsA x k → ¬ P x k) : NT N A σ en lf Z h' := by
  refine ⟨hT.1.frame hf (fun x k z => hd x k (by simp only [cellsA]; omega)), hT.2.1, hT.2.2.1, hT.2.2.2.1, fun j hj => ?_⟩
  rw [hf.1 _ _ (hd _ _ (by simp [cellsA]))]; exact hT.2.2.2.2 j hj
theorem ex_NP {A : Nat} {en lf en' lf' : Nat → Nat} (h1 : ∀ e, e < 2 * A → en' e = en e) (h2 : ∀ e, e < 2 * A → lf' e = lf e) (w : Nat) : ex (NP A en' lf') (fP lf') w = ex (NP A en lf) (fP lf) w := by
  unfold ex
  apply sI_congr
  intro j hj
  have hj' : j < A := hj
  show (lf' (2 * j + 1) : Int) * ((if en' (2 * j) = w then 1 else 0) - (if en' (2 * j + 1) = w then 1 else 0)) = (lf (2 * j + 1) : Int) * ((if en (2 * j) = w then 1 else 0) - (if en (2 * j + 1) = w then 1 else 0))
  rw [h1 _ (by omega), h1 _ (by omega), h2 _ (by omega)]
theorem nt_add {N : NW} {A : Nat} {σ en lf : Nat → Nat} {Z : Nat → Prop} {h : HP} {Q : HP → Prop} {a0 : Nat} (hT : NT N A σ en lf Z h) (ha : a0 < 550) (hZ : Z a0) (hA : A < 534) (hx : nT N a0 < 152) (hy : nH N a0 < 152) (hr : nC N a0 < 2 ^ 31) {x y r : Nat} {ow : Int32} (ex' : x = nT N a0) (ey : y = nH N a0) (er : r = nC N a0) (eo : ow = oww a0) (hQ : ∀ A' σ' en' lf' h', A' ≤ A + 1 → NT N A' σ' en' lf' (fun a => Z a ∧ a ≠ a0) h' → ex (NP A' en' lf') (fP lf') 150 = ex (NP A en lf) (fP lf) 150 → FrI cellsA h h' → Q h') : f_X1_addArc (nI x) (nI y) (nI r) ow h Q := by
  subst ex' ey er eo
  refine c_addArc hT.1 hr hA hx hy (fun z => ?_) (fun z h' A1 o1 f1 => ?_)
  · refine hQ A σ en lf h (by omega) (hT.weaken (fun a h1 h2 h3 h4 => h3 ⟨h4, fun q => ?_⟩) (fun a q => q.1)) rfl FrI.rf
    rw [q] at h2; omega
  · obtain ⟨t1, t2, t3, t4, t5⟩ := hT
    have ev : ∀ e, e < 2 * A → upN (upN en (2 * A) (nH N a0)) (2 * A + 1) (nT N a0) e = en e := fun e he => by rw [upN_ne (by omega), upN_ne (by omega)]
    have lv : ∀ e, e < 2 * A → upN (upN lf (2 * A) (nC N a0)) (2 * A + 1) 0 e = lf e := fun e he => by rw [upN_ne (by omega), upN_ne (by omega)]
    have e0 : upN (upN en (2 * A) (nH N a0)) (2 * A + 1) (nT N a0) (2 * A) = nH N a0 := by rw [upN_ne (by omega), upN_eq]
    have e1 : upN (upN en (2 * A) (nH N a0)) (2 * A + 1) (nT N a0) (2 * A + 1) = nT N a0 := upN_eq
    have l0 : upN (upN lf (2 * A) (nC N a0)) (2 * A + 1) 0 (2 * A) = nC N a0 := by rw [upN_ne (by omega), upN_eq]
    have l1 : upN (upN lf (2 * A) (nC N a0)) (2 * A + 1) 0 (2 * A + 1) = 0 := upN_eq
    have exs : ∀ w, ex (NP (A + 1) (upN (upN en (2 * A) (nH N a0)) (2 * A + 1) (nT N a0)) (upN (upN lf (2 * A) (nC N a0)) (2 * A + 1) 0)) (fP (upN (upN lf (2 * A) (nC N a0)) (2 * A + 1) 0)) w = ex (NP A en lf) (fP lf) w := by
      intro w
      rw [← ex_NP ev lv w]
      unfold ex
      show sI _ (A + 1) = sI _ A
      simp only [sI]
      have : (fP (upN (upN lf (2 * A) (nC N a0)) (2 * A + 1) 0) A : Int) = 0 := by
        show ((upN (upN lf (2 * A) (nC N a0)) (2 * A + 1) 0 (2 * A + 1) : Nat) : Int) = 0
        rw [l1]; rfl
      rw [this, Int.zero_mul, Int.add_zero]
      rfl
    refine hQ (A + 1) (upN σ A a0) _ _ h' (Nat.le_refl _) ⟨A1.congr (fun i hi => ?_), ⟨fun j hj => ?_, fun i j hij hj => ?_⟩, ⟨fun a h1 h2 h3 => ?_, fun j hj q => ?_⟩, ⟨fun j hj => Nat.le_add_left _ _, fun w h1 h2 => by rw [exs]; exact t4.2 w h1 h2⟩, fun j hj => ?_⟩ (exs 150) f1
    · by_cases q1 : i = 2 * A
      · rw [q1, upN_ne (by omega), upN_eq, show xr (2 * A) = 2 * A + 1 by unfold xr; rw [if_pos (by omega)], e1]
      · by_cases q2 : i = 2 * A + 1
        · rw [q2, upN_eq, show xr (2 * A + 1) = 2 * A by unfold xr; rw [if_neg (by omega)]; omega, e0]
        · rw [upN_ne q2, upN_ne q1, ev _ (xr_lt (by omega))]
    · by_cases q : j = A
      · subst q
        rw [upN_eq, e0, e1, l0, l1]
        exact ⟨ha, rfl, rfl, rfl, z⟩
      · rw [upN_ne q, ev _ (by omega), ev _ (by omega), lv _ (by omega), lv _ (by omega)]
        exact t2.1 j (by omega)
    · by_cases q : j = A
      · rw [q, upN_eq, upN_ne (by omega)]
        intro e
        exact t3.2 i (by omega) (by rw [e]; exact hZ)
      · rw [upN_ne q, upN_ne (by omega)]
        exact t2.2 i j hij (by omega)
    · by_cases q : a = a0
      · exact ⟨A, by omega, by rw [upN_eq, q]⟩
      · obtain ⟨j, j1, j2⟩ := t3.1 a h1 h2 (fun z => h3 ⟨z, q⟩)
        exact ⟨j, by omega, by rw [upN_ne (by omega)]; exact j2⟩
    · by_cases e : j = A
      · rw [e, upN_eq] at q; exact q.2 rfl
      · rw [upN_ne e] at q; exact t3.2 j (by omega) q.1
    · have hj' : j < A + 1 := hj
      rw [o1 j (by omega)]
      by_cases e : j = A
      · rw [if_pos e, e, upN_eq]
      · rw [if_neg e, upN_ne e]; exact t5 j (by omega)
abbrev cellsT : Nat → Nat → Prop := fun a k => cellsA a k ∨ (a = 88 ∧ k = 5)
section At
variable {m B w : Nat} {v : WV} {h : HP} {Q : HP → Prop} {g k : Nat} {hl : Int32} {ht : Nat}
theorem NX.ft {h1 : HP} (hF : WF m B v) (hx : NX w v g hl ht h) (hf : FrI cellsT h h1) : NX w v g hl ht h1 := hx.frame hF.1.2.1 hF.1.2.2 hf (by intro a k; simp only [cellsT, cellsA]; omega)
theorem c_addTick {A F : Nat} {σ en lf : Nat → Nat} (hF : WF m B v) (hg : g < vS v) (hk : k ≤ 24) (hht : ht < 2 ^ 31) (hx : NX w v g hl ht h) (hT : NT (tn v (rmB v (-1) (-1) hl ht) g k) A σ en lf (Rst v k 0 0) h) (hA : A + 16 ≤ 22 * k ∨ (k = 0 ∧ A = 0)) (hfl : gi h 88 5 = nI F)
    (hQ : ∀ A' σ' en' lf' h', NT (tn v (rmB v (-1) (-1) hl ht) g k) A' σ' en' lf' (fun _ => False) h' → A' + 16 ≤ 22 * (k + 1) → gi h' 88 5 = nI (F + cmV v g k) → ex (NP A' en' lf') (fP lf') 150 = ex (NP A en lf) (fP lf) 150 → FrI cellsT h h' → Q h') : f_X1_addTick (nI k) h Q := by
  have h6 := hF.1
  unfold f_X1_addTick
  have clt : ∀ a, a < 550 → nC (tn v (rmB v (-1) (-1) hl ht) g k) a < 2 ^ 31 := fun a ha => by
    have := tnC_le (R := rmB v (-1) (-1) hl ht) (g := g) (n := k) hF (rmB_fB hF).1 ha
    omega
  -- lines
  have second : ∀ A1 σ1 en1 lf1 h1, NT (tn v (rmB v (-1) (-1) hl ht) g k) A1 σ1 en1 lf1 (Rst v k 6 0) h1 → (A1 + 4 ≤ 22 * k ∨ (k = 0 ∧ A1 ≤ 6)) → gi h1 88 5 = nI (F + cmV v g k) → ex (NP A1 en1 lf1) (fP lf1) 150 = ex (NP A en lf) (fP lf) 150 → FrI cellsT h h1 → ∃ c, f_X1_addTick_L113 (nI k) Q c 0 h1 := by
    intro A1 σ1 en1 lf1 h1 k1 k2 k3 k4 k5
    have key := loop_up (L := fun c l => ∀ A1 σ1 en1 lf1 h1, NT (tn v (rmB v (-1) (-1) hl ht) g k) A1 σ1 en1 lf1 (Rst v k 6 l) h1 → (A1 + 4 ≤ 22 * k + l ∨ (k = 0 ∧ A1 ≤ 6)) → gi h1 88 5 = nI (F + cmV v g k) → ex (NP A1 en1 lf1) (fP lf1) 150 = ex (NP A en lf) (fP lf) 150 → FrI cellsT h h1 → f_X1_addTick_L113 (nI k) Q c (nI l) h1) (vL v) 0 (by omega) (fun c A1 σ1 en1 lf1 h1 k1 k2 k3 k4 k5 => ?_) (fun l c _ hl' ih A1 σ1 en1 lf1 h1 k1 k2 k3 k4 k5 => ?_)
    · obtain ⟨c, hc⟩ := key
      exact ⟨c, hc A1 σ1 en1 lf1 h1 k1 k2 k3 k4 k5⟩
    · unfold f_X1_addTick_L113
      have x1 := hx.ft hF k5
      refine ⟨x1.kd, ?_⟩
      rw [x1.1.1, x1.2.1.1.2.2.2]
      refine br_le (by omega) (by omega) (fun _ => hQ A1 σ1 en1 lf1 h1 (k1.weaken (fun a h1 h2 h3 h4 => ?_) (fun a q => q.elim)) (by omega) k3 k4 k5) (fun z => by omega)
      rcases h4 with ⟨s, q1, q2, _⟩ | ⟨l, q1, q2, _⟩ <;> omega
    · unfold f_X1_addTick_L113
      have x1 := hx.ft hF k5
      have hll := hF.2.2.1 l hl'
      have htk := takesL_le hF hl'
      have skip : (takesL v l ≤ k → vl v l 1 = g) → f_X1_addTick_L113 (nI k) Q c (nI (l + 1)) h1 := by
        intro q
        refine ih A1 σ1 en1 lf1 h1 (k1.weaken (fun a h1 h2 h3 h4 => ?_) (fun a q => ?_)) (by omega) k3 k4 k5
        · rcases h4 with ⟨s, q1, q2, _⟩ | ⟨l2, q1, q2, q3, q4⟩
          · omega
          · by_cases e : l2 = l
            · subst e
              rw [q4, (tn_l (v := v) (R := rmB v (-1) (-1) hl ht) (g := g) (n := k) (l := l2) (i := k - takesL v l2) (by omega)).2.2, if_neg (fun z => z.2.1 (q q3))] at h2
              omega
            · exact h3 (Or.inr ⟨l2, by omega, q2, q3, q4⟩)
        · rcases q with q | ⟨l2, q1, q2⟩
          · exact Or.inl q
          · exact Or.inr ⟨l2, by omega, q2⟩
      refine ⟨x1.kd, ?_⟩
      rw [x1.1.1, x1.2.1.1.2.2.2]
      refine br_le (by omega) (by omega) (fun z => by omega) (fun _ => ⟨by have := x1.kd; rw [x1.1.1] at this; exact this, vp_in_nI (by omega) (by decide), ?_⟩)
      rw [ix_nI (by omega), show w + 2 + 7 + 2 * l = w + 9 + 2 * l by omega]
      refine c_takes hF x1.2.1 hl' ?_
      intro x4 e4
      rw [e4]
      refine br_neg (by omega) (by omega) (fun z x ex => by rw [ex, nI_1]; exact skip (fun q => by omega)) (fun z => ?_)
      rw [x1.2.1.2.2.1 l hl' 1 (by omega), x1.2.2.1, nI_sub z]
      refine br_eq (by omega) (by omega) (fun z2 x ex => by rw [ex, nI_1]; exact skip (fun _ => z2)) (fun z2 => ?_)
      intro x5 e5
      rw [x1.2.2.2.1, x1.2.2.2.2] at e5
      refine c_node x1 (by omega) (by omega) ?_
      rw [x1.2.1.2.2.1 l hl' 2 (by omega)]
      refine c_node x1 (by omega) (by omega) ⟨x1.kd, ?_⟩
      rw [x1.1.1]
      refine c_roomAhead hF x1.2.1 hl' (by omega) hht e5 ?_
      obtain ⟨d1, d2, d3⟩ := tn_l (v := v) (R := rmB v (-1) (-1) hl ht) (g := g) (n := k) (l := l) (i := k - takesL v l) (by omega)
      rw [show k - takesL v l + takesL v l = k by omega] at d2 d3
      rw [if_pos ⟨hl', z2, Nat.le_refl _⟩] at d3
      have hA1 : A1 < 534 := by omega
      refine nt_add (a0 := 300 + (25 * l + (k - takesL v l))) k1 (by omega) (Or.inr ⟨l, Nat.le_refl _, hl', z, rfl⟩) hA1 (by rw [d1]; have := nd_lt (g := g) (s := vl v l 1) (i := k - takesL v l) (by omega) (by omega); omega) (by rw [d2]; have := nd_lt (g := g) (s := vl v l 2) (i := k) (by omega) (by omega); omega) (clt _ (by omega)) d1.symm d2.symm (by rw [d3]; unfold rmB; rw [if_pos hl']) (by unfold oww; rw [if_neg (by omega), show (300 + (25 * l + (k - takesL v l)) - 300) / 25 = l by omega]) (fun A2 σ2 en2 lf2 h2 j1 j2 j3 j4 => ?_)
      intro x ex
      rw [ex, nI_1]
      refine ih A2 σ2 en2 lf2 h2 (j2.weaken (fun a h1 h2 h3 h4 => ?_) (fun a q => ?_)) (by omega) ?_ (j3.trans k4) (k5.trans (j4.mono (fun _ _ q => Or.inl q)))
      · rcases h4.1 with ⟨s, q1, q2, _⟩ | ⟨l2, q1, q2, q3, q4⟩
        · omega
        · by_cases e : l2 = l
          · subst e; exact h4.2 q4
          · exact h3 (Or.inr ⟨l2, by omega, q2, q3, q4⟩)
      · rcases q with ⟨s, q1, q2, _⟩ | ⟨l2, q1, q2, q3, q4⟩
        · omega
        · refine ⟨Or.inr ⟨l2, by omega, q2, q3, q4⟩, ?_⟩
          have := takesL_le hF q2
          omega
      · rw [j4.1 _ _ (by simp only [cellsA]; omega)]; exact k3
  have key := loop_up (L := fun c s => ∀ A1 σ1 en1 lf1 h1, NT (tn v (rmB v (-1) (-1) hl ht) g k) A1 σ1 en1 lf1 (Rst v k s 0) h1 → (A1 + 16 ≤ 22 * k + 2 * s ∨ (k = 0 ∧ A1 ≤ s)) → gi h1 88 5 = nI (F + if g < s then cmV v g k else 0) → ex (NP A1 en1 lf1) (fP lf1) 150 = ex (NP A en lf) (fP lf) 150 → FrI cellsT h h1 → f_X1_addTick_L2 (nI k) (fun h25 => ∃ n49, f_X1_addTick_L113 (nI k) Q n49 0 h25) Q c (nI s) h1) (vS v) 0 (by omega) (fun c A1 σ1 en1 lf1 h1 k1 k2 k3 k4 k5 => ?_) (fun s c _ hs ih A1 σ1 en1 lf1 h1 k1 k2 k3 k4 k5 => ?_)
  · obtain ⟨c, hc⟩ := key
    exact ⟨c, hc A σ en lf h hT (by omega) (by rw [if_neg (by omega)]; exact hfl) rfl FrI.rf⟩
  · unfold f_X1_addTick_L2
    have x1 := hx.ft hF k5
    refine ⟨x1.kd, ?_⟩
    rw [x1.1.1, x1.2.1.1.2.2.1]
    refine br_le (by omega) (by omega) (fun _ => second A1 σ1 en1 lf1 h1 (k1.weaken (fun a h1 h2 h3 h4 => ?_) (fun a q => ?_)) (by omega) (by rw [if_pos hg] at k3; exact k3) k4 k5) (fun z => by omega)
    · rcases h4 with ⟨s, q1, q2, q3 | ⟨q3, q4⟩⟩ | q
      · rw [q3, (tn_s (v := v) (R := rmB v (-1) (-1) hl ht) (g := g) (n := k) q2 (by omega)).2.2, if_neg (fun z => by omega)] at h2; omega
      · rw [q4, (tn_y (v := v) (R := rmB v (-1) (-1) hl ht) (g := g) (n := k) q2 (by omega)).2.2, if_neg (fun z => by omega)] at h2; omega
      · exact h3 (Or.inr q)
    · rcases q with ⟨s, q1, q2, _⟩ | q
      · omega
      · exact Or.inr q
  · unfold f_X1_addTick_L2
    have x1 := hx.ft hF k5
    refine ⟨x1.kd, ?_⟩
    rw [x1.1.1, x1.2.1.1.2.2.1]
    refine br_le (by omega) (by omega) (fun z => by omega) (fun _ => ⟨by have := x1.kd; rw [x1.1.1] at this; exact this, ?_⟩)
    refine c_supply hF x1.2.1 hs hk ?_
    rw [x1.2.2.1]
    refine br_eq (by omega) (by omega) (fun z => ?_) (fun z => ?_)
    · intro h23 e23 x ex
      rw [k3, nI_add] at e23
      rw [ex, nI_1]
      have f23 : FrI (fun a k => a = 88 ∧ k = 5) h1 h23 := by rw [e23]; exact FrI.si ⟨rfl, rfl⟩
      refine ih A1 σ1 en1 lf1 h23 ((k1.frame f23 (by intro x k; simp only [cellsA]; omega)).weaken (fun a h1 h2 h3 h4 => ?_) (fun a q => ?_)) (by omega) ?_ k4 (k5.trans (f23.mono (fun _ _ q => Or.inr q)))
      · rcases h4 with ⟨s2, q1, q2, q3⟩ | q
        · by_cases e : s2 = s
          · rcases q3 with q3 | ⟨q3, q4⟩
            · rw [q3, (tn_s (v := v) (R := rmB v (-1) (-1) hl ht) (g := g) (n := k) q2 (by omega)).2.2, if_neg (fun z => by omega)] at h2; omega
            · rw [q4, (tn_y (v := v) (R := rmB v (-1) (-1) hl ht) (g := g) (n := k) q2 (by omega)).2.2, if_neg (fun z => by omega)] at h2; omega
          · exact h3 (Or.inl ⟨s2, by omega, q2, q3⟩)
        · exact h3 (Or.inr q)
      · rcases q with ⟨s2, q1, q2⟩ | q
        · exact Or.inl ⟨s2, by omega, q2⟩
        · exact Or.inr q
      · rw [e23, gi_si, if_pos ⟨rfl, rfl⟩, if_neg (by omega), if_pos (by omega), z]; rfl
    · refine c_node x1 (by omega) (by omega) ?_
      obtain ⟨d1, d2, d3⟩ := tn_s (v := v) (R := rmB v (-1) (-1) hl ht) (g := g) (n := k) (s := s) (i := k) (by omega) (by omega)
      rw [if_pos ⟨hs, z, Nat.le_refl _⟩] at d3
      have hA1 : A1 < 534 := by omega
      have n1 := nd_lt (g := g) (s := s) (i := k) (by omega) (by omega)
      refine nt_add (a0 := 25 * s + k) (x := 151) k1 (by omega) (Or.inl ⟨s, Nat.le_refl _, by omega, Or.inl rfl⟩) hA1 (by rw [d1]; omega) (by rw [d2]; omega) (clt _ (by omega)) d1.symm d2.symm d3.symm (by unfold oww; rw [if_pos (by omega)]) (fun A2 σ2 en2 lf2 h2 j1 j2 j3 j4 => ?_)
      have fl2 : gi h2 88 5 = nI (F + if g < s then cmV v g k else 0) := by rw [j4.1 _ _ (by simp only [cellsA]; omega)]; exact k3
      have gs : (if g < s then cmV v g k else 0) = (if g < s + 1 then cmV v g k else 0) := by
        by_cases q : g < s
        · rw [if_pos q, if_pos (by omega)]
        · rw [if_neg q, if_neg (by omega)]
      rw [gs] at fl2
      have f2 : FrI cellsT h h2 := k5.trans (j4.mono (fun _ _ q => Or.inl q))
      refine br_le (b := 0) (by omega) (by omega) (fun z2 => ?_) (fun z2 => ?_)
      · intro x ex
        rw [ex, nI_1]
        refine ih A2 σ2 en2 lf2 h2 (j2.weaken (fun a h1 h2 h3 h4 => ?_) (fun a q => ?_)) (by omega) fl2 (j3.trans k4) f2
        · rcases h4.1 with ⟨s2, q1, q2, q3⟩ | q
          · by_cases e : s2 = s
            · subst e
              rcases q3 with q3 | ⟨q3, q4⟩
              · exact h4.2 q3
              · omega
            · exact h3 (Or.inl ⟨s2, by omega, q2, q3⟩)
          · exact h3 (Or.inr q)
        · rcases q with ⟨s2, q1, q2, q3⟩ | ⟨l, q⟩
          · exact ⟨Or.inl ⟨s2, by omega, q2, q3⟩, by omega⟩
          · exact ⟨Or.inr ⟨l, q⟩, by omega⟩
      · have x2 := hx.ft hF f2
        rw [lit 1, nI_sub (by omega)]
        refine c_node x2 (by omega) (by omega) ?_
        refine c_node x2 (by omega) (by omega) ⟨x2.kd, vp_in_nI (by omega) (by decide), x2.kd, ?_⟩
        rw [x2.1.1, x2.2.1.1.1, nI_add, nI_sub (by omega), ix_nI (by omega), show w + 1 + 2 + s = w + 3 + s by omega]
        refine c_holds hF x2.2.1 hs (by omega) ?_
        obtain ⟨b1, b2, b3⟩ := tn_y (v := v) (R := rmB v (-1) (-1) hl ht) (g := g) (n := k) (s := s) (i := k - 1) (by omega) (by omega)
        rw [if_pos ⟨hs, z, by omega⟩, show vT v + (k - 1) = vT v + k - 1 by omega] at b3
        rw [show k - 1 + 1 = k by omega] at b2
        have hA2 : A2 < 534 := by omega
        have n2 := nd_lt (g := g) (s := s) (i := k - 1) (by omega) (by omega)
        refine nt_add (a0 := 150 + (25 * s + (k - 1))) j2 (by omega) ⟨Or.inl ⟨s, Nat.le_refl _, by omega, Or.inr ⟨z2, rfl⟩⟩, by omega⟩ hA2 (by rw [b1]; omega) (by rw [b2]; omega) (clt _ (by omega)) b1.symm b2.symm b3.symm (by unfold oww; rw [if_pos (by omega)]; rfl) (fun A3 σ3 en3 lf3 h3 i1 i2 i3 i4 => ?_)
        intro x ex
        rw [nI_add] at ex
        rw [ex]
        refine ih A3 σ3 en3 lf3 h3 (i2.weaken (fun a h1 h2 h3 h4 => ?_) (fun a q => ?_)) (by omega) (by rw [i4.1 _ _ (by simp only [cellsA]; omega)]; exact fl2) (i3.trans (j3.trans k4)) (f2.trans (i4.mono (fun _ _ q => Or.inl q)))
        · rcases h4.1.1 with ⟨s2, q1, q2, q3⟩ | q
          · by_cases e : s2 = s
            · subst e
              rcases q3 with q3 | ⟨q3, q4⟩
              · exact h4.1.2 q3
              · exact h4.2 q4
            · exact h3 (Or.inl ⟨s2, by omega, q2, q3⟩)
          · exact h3 (Or.inr q)
        · rcases q with ⟨s2, q1, q2, q3⟩ | ⟨l, q⟩
          · exact ⟨⟨Or.inl ⟨s2, by omega, q2, q3⟩, by omega⟩, by omega⟩
          · exact ⟨⟨Or.inr ⟨l, q⟩, by omega⟩, by omega⟩
end At
