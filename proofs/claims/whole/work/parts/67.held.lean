/-! held and begin -/
/-- with the line held to x so much still comes -/
def HdP (v : WV) (g n l V x : Nat) : Prop := ∃ f, Flw (tn v (rmB v (-1) (-1) (nI l) x) g n) 151 150 f ∧ ex (tn v (rmB v (-1) (-1) (nI l) x) g n) f 150 = (V : Int)
def HdL (v : WV) (g n l V x : Nat) : Prop := HdP v g n l V x ∧ ∀ y, y < x → ¬ HdP v g n l V y
theorem HdL.uniq {v : WV} {g n l V x y : Nat} (h1 : HdL v g n l V x) (h2 : HdL v g n l V y) : x = y := by
  apply Decidable.byContradiction
  intro z
  by_cases q : x < y
  · exact h2.2 x q h1.1
  · exact h1.2 y (by omega) h2.1
noncomputable def hdF (v : WV) (g n l V : Nat) : Nat := Classical.epsilon (fun x => HdL v g n l V x)
theorem hdF_eq {v : WV} {g n l V x : Nat} (h : HdL v g n l V x) : hdF v g n l V = x := (Classical.epsilon_spec (p := fun x => HdL v g n l V x) ⟨x, h⟩).uniq h
section Pr
variable {v : WV} {g n m B l V : Nat}
theorem ex_R {R R' : Nat → Nat → Nat} {f : Nat → Nat} {w : Nat} : ex (tn v R g n) f w = ex (tn v R' g n) f w := rfl
theorem hdP_up {x y : Nat} (hF : WF m B v) (hl : l < vL v) (hxy : x ≤ y) (h : HdP v g n l V x) : HdP v g n l V y := by
  have h6 := hF.1
  obtain ⟨f, a, b⟩ := h
  exact ⟨f, flw_R (tnC_R (fun l' hl' i hi => (rm_hl (by omega) (by omega)).2.2.2 y hxy)) a, ex_R.trans b⟩
theorem hdP_iff {x V' : Nat} (hF : WF m B v) (hl : l < vL v) (hn : n ≤ 24) (h0 : MxV (tn v (R0 v) g n) V) (h1 : MxV (tn v (rmB v (-1) (-1) (nI l) x) g n) V') : V' = V ↔ HdP v g n l V x := by
  have h6 := hF.1
  have le := mos_le hF hn (fun l' hl' i hi => (rm_hl (v := v) (l := l) (l' := l') (i := i) (x := x) (by omega) (by omega)).1) h1 h0
  obtain ⟨f, T, a, b⟩ := h1
  constructor
  · intro e
    exact ⟨f, a.1, by rw [b, e]⟩
  · intro q
    obtain ⟨f', a', b'⟩ := q
    have := mx_le (tn_B hF hn) (by omega) (by omega) (by omega) a' a
    omega
theorem hdP_300 (hF : WF 99 B v) (hl : l < vL v) (h0 : MxV (tn v (R0 v) g n) V) : HdP v g n l V 300 := by
  have h6 := hF.1
  obtain ⟨f, T, a, b⟩ := h0
  refine ⟨f, flw_R (tnC_R (fun l' hl' i hi => ?_)) a.1, ex_R.trans b⟩
  refine (rm_hl (by omega) (by omega)).2.2.1 _ (Nat.le_refl _) ?_
  obtain ⟨a0, a1, a2, a3, a4, a5, a6, a7, a8, a9, a10⟩ := hF.2.2.1 l' hl'
  have hr : roomL v l' (vT v + i) 0 ≤ 3 * (99 + 0) := roomV_le a4 a8
  show rmB v (-1) (-1) (-1) 0 l' i + sxV v l' i ≤ 300 ∨ rmB v (-1) (-1) (-1) 0 l' i = 0
  unfold rmB rmR sxV
  rw [if_pos hl', if_neg (nI_nm1 (by omega)), if_neg (nI_nm1 (by omega))]
  have q : ∀ r : Nat, (if nI l' = (-1 : Int32) ∧ 0 < r then 0 else r) = r := fun r => if_neg (fun q => nI_nm1 (by omega) q.1)
  show (if i = 0 then (if nI l' = (-1 : Int32) ∧ 0 < roomL v l' (vT v + i) 0 then 0 else roomL v l' (vT v + i) 0) - vl v l' 8 else (if nI l' = (-1 : Int32) ∧ 0 < roomL v l' (vT v + i) 0 then 0 else roomL v l' (vT v + i) 0)) + (if i = 0 then vl v l' 8 else 0) ≤ 300 ∨ (if i = 0 then (if nI l' = (-1 : Int32) ∧ 0 < roomL v l' (vT v + i) 0 then 0 else roomL v l' (vT v + i) 0) - vl v l' 8 else (if nI l' = (-1 : Int32) ∧ 0 < roomL v l' (vT v + i) 0 then 0 else roomL v l' (vT v + i) 0)) = 0
  rw [q]
  by_cases z : i = 0
  · simp only [if_pos z]; omega
  · simp only [if_neg z]; omega
theorem hdP_pk {f : Nat → Nat} {pk : Nat} (hF : WF m B v) (hl : l < vL v) (hf : Flw (tn v (R0 v) g n) 151 150 f) (hV : ex (tn v (R0 v) g n) f 150 = (V : Int)) (hp : PKS v f l pk) : HdP v g n l V pk := by
  have h6 := hF.1
  refine ⟨f, ⟨fun a ha => ?_, fun w h1 h2 => ex_R.trans (hf.2 w h1 h2)⟩, ex_R.trans hV⟩
  have ha' : a < 550 := by rw [tn_A] at ha; exact ha
  have fa := hf.1 a (by rw [tn_A]; exact ha')
  rcases arc3 ha' with ⟨s, i, hs, hi, rfl⟩ | ⟨s, i, hs, hi, rfl⟩ | ⟨l', i, hl', hi, rfl⟩
  · rw [(tn_s (v := v) (R := R0 v) (g := g) (n := n) hs hi).2.2] at fa
    rw [(tn_s (v := v) (R := rmB v (-1) (-1) (nI l) pk) (g := g) (n := n) hs hi).2.2]; exact fa
  · rw [(tn_y (v := v) (R := R0 v) (g := g) (n := n) hs hi).2.2] at fa
    rw [(tn_y (v := v) (R := rmB v (-1) (-1) (nI l) pk) (g := g) (n := n) hs hi).2.2]; exact fa
  · rw [(tn_l (v := v) (R := R0 v) (g := g) (n := n) (l := l') hi).2.2] at fa
    rw [(tn_l (v := v) (R := rmB v (-1) (-1) (nI l) pk) (g := g) (n := n) (l := l') hi).2.2]
    split
    · rename_i z
      rw [if_pos z] at fa
      have rh := rm_hl (v := v) (l := l) (l' := l') (i := i) (x := pk) (by omega) (by omega)
      by_cases e : l' = l
      · subst e
        by_cases f0 : 0 < f (300 + (25 * l' + i))
        · exact rh.2.2.1 _ fa (Or.inl (hp.1 i hi f0))
        · exact rh.2.2.1 _ fa (Or.inr (by omega))
      · rw [rh.2.1 e]; exact fa
    · rename_i z
      rw [if_neg z] at fa; exact fa
end Pr
section Ops
variable {c : Nat} {σ : ST} {h : HP} {Q : Int32 → HP → Prop}
noncomputable def o_held (σ : ST) (x1 x2 x3 : Int32) : Int32 × ST := by
  classical exact if isL σ x1 ∧ isAsk σ x2 x3 then (nI (hdF (sV σ) (nt x2) (nt x3) (nt x1) (mxF (tn (sV σ) (R0 (sV σ)) (nt x2) (nt x3)))), σ) else (fnd 0, uF σ 0)
theorem WS_held {x1 x2 x3 : Int32} (hW : WS c σ) (hc : c < 512) : WS (c + 1) (o_held σ x1 x2 x3).2 := by
  refine WS_q hW hc ?_
  unfold o_held
  split
  · exact Or.inl rfl
  · exact Or.inr ⟨0, rfl⟩
theorem c_held {x1 x2 x3 : Int32} (hW : WS c σ) (hI : CI σ h) (hQ : ∀ h', CI (o_held σ x1 x2 x3).2 h' → LoF h h' → Q (o_held σ x1 x2 x3).1 h') : f_X7_held x1 x2 x3 h Q := by
  have hs := hW.small
  have hF := hW.2.1.1
  unfold f_X7_held
  unfold o_held at hQ
  refine c_hasL hI.1 hs.2.1 (fun p => br1 ?_) (fun p => br0 ?_)
  · refine c_isAsked hW hI (fun p2 => br1 ?_) (fun p2 => br0 ?_)
    · rw [if_pos ⟨p, p2⟩] at hQ
      have e0 := isL_lt (σ := σ) p
      have e1 := isS_lt p2.1
      have e2 := ask_n p2.2
      generalize nt x1 = l at *
      generalize nt x2 = g at *
      generalize nt x3 = n at *
      rw [e0.1, e1.1, e2.1]
      refine c_mostIn hF hI.1 (Or.inl rfl) e1.2 e2.2 (fun A V σ' en lf lev h1 d x f1 => ?_)
      have dV := mxF_eq (tn_B hF e2.2) d.mxv
      have dl := d.le hF e1.2 e2.2
      rw [dV] at hQ
      refine c_peak hF e2.2 (rmB_fB hF).1 x d e0.2 (fun pk p1 p2 => ?_)
      have hpk := hdP_pk hF e0.2 d.flw.1 d.flw.2 p2
      have key : ∀ r j, j + r = 32 → ∀ low high h2, low ≤ high → high ≤ 5000000 → high - low < 2 ^ r → HdP (sV σ) g n l V high → (∀ y, y < low → ¬ HdP (sV σ) g n l V y) → FrC h h2 → f_X7_held_L55 (nI l) (nI g) (nI n) (nI (own (sV σ) g n + V)) Q (r + 1) (nI low) (nI high) (nI j) h2 := by
        intro r
        induction r with
        | zero =>
          intro j hj low high h2 k1 k2 k3 k4 k5 k6
          unfold f_X7_held_L55
          have : high = low := by omega
          refine br_le (a := 32) (by omega) (by omega) (fun _ => ?_) (fun z => by omega)
          have e := hdF_eq (v := sV σ) (g := g) (n := n) (l := l) (V := V) (x := high) ⟨k4, by rw [this]; exact k5⟩
          rw [e] at hQ
          exact hQ h2 (hI.junk hW k6) k6.lo
        | succ r ih =>
          intro j hj low high h2 k1 k2 k3 k4 k5 k6
          unfold f_X7_held_L55
          refine br_le (a := 32) (by omega) (by omega) (fun z => by omega) (fun _ => ?_)
          refine br_le (by omega) (by omega) (fun z => ?_) (fun z => ?_)
          · have : high = low := by omega
            have e := hdF_eq (v := sV σ) (g := g) (n := n) (l := l) (V := V) (x := high) ⟨k4, by rw [this]; exact k5⟩
            rw [e] at hQ
            exact hQ h2 (hI.junk hW k6) k6.lo
          · intro x8 e8
            rw [nI_add, lit 2, nI_div (by omega) (by omega) (by omega)] at e8
            rw [e8]
            rw [Nat.pow_succ] at k3
            have hC2 := hI.1.fc k6 (by omega) hs.1 hs.2.1
            refine c_mostHeld hF hC2 e1.2 e2.2 (by omega) (fun A2 V2 σ2 en2 lf2 lev2 h3 d2 x2 f3 => ?_)
            have iff := hdP_iff hF e0.2 e2.2 d.mxv d2.mxv
            have dl2 := d2.le hF e1.2 e2.2
            refine br_eq (by omega) (by omega) (fun z2 => ?_) (fun z2 => ?_)
            · intro x7 e7
              rw [e7, nI_1]
              exact ih (j + 1) (by omega) low ((low + high) / 2) h3 (by omega) (by omega) (by omega) (iff.mp (by omega)) k5 (k6.trans f3.c)
            · intro x5 e5 x7 e7
              rw [e5, e7, nI_1, nI_1]
              refine ih (j + 1) (by omega) ((low + high) / 2 + 1) high h3 (by omega) k2 (by omega) k4 (fun y hy q => ?_) (k6.trans f3.c)
              exact z2 (by have := iff.mpr (hdP_up hF e0.2 (by omega) q); omega)
      exact ⟨33, key 32 0 (by omega) 0 pk h1 (by omega) p1 (by omega) hpk (fun y hy => by omega) f1.c⟩
    · rw [if_neg (fun q => p2 q.2)] at hQ
      exact c_found (by omega) hI hQ fnd0 hs
  · rw [if_neg (fun q => p q.1)] at hQ
    exact c_found (by omega) hI hQ fnd0 hs
theorem m_held {x1 x2 x3 : Int32} (hW : WS c σ) (hI : MI σ h) (hQ : ∀ h', MI (o_held σ x1 x2 x3).2 h' → HiF h h' → Q (o_held σ x1 x2 x3).1 h') : f_X8_held x1 x2 x3 h Q := by
  have hs := hW.small
  have hF := hW.2.1.1
  unfold f_X8_held
  unfold o_held at hQ
  refine m_isL hI.1 hs.2.1 (fun p => br1 ?_) (fun p => br0 ?_)
  · refine m_isS hI.1 hs.1 (fun p2 => br1 ?_) (fun p2 => br0 ?_)
    · refine m_isAhead (fun p3 => br1 ?_) (fun p3 => br0 ?_)
      · rw [if_pos ⟨p, p2, p3⟩] at hQ
        have e0 := isL_lt (σ := σ) p
        have e1 := isS_lt (σ := σ) p2
        have e2 := ask_n p3
        generalize nt x1 = l at *
        generalize nt x2 = g at *
        generalize nt x3 = n at *
        rw [e0.1, e1.1, e2.1]
        refine m_mostOf hF e1.2 e2.2 hI.1 (fun h1 q f1 => ?_)
        obtain ⟨V, fl0, τ0, sh0⟩ := q
        have dV := mxF_eq (tn_B hF e2.2) (sh0.mxv hF e2.2)
        have dl := mosV_le hF e1.2 e2.2 ⟨V, sh0.mxv hF e2.2⟩
        have em := sh0.mos hF e2.2
        rw [dV] at hQ
        have key : ∀ r low high h2, low ≤ high → high ≤ 300 → high - low ≤ r → HdP (sV σ) g n l V high → (∀ y, y < low → ¬ HdP (sV σ) g n l V y) → FrI cellsX h h2 → f_X8_held_L46 (nI l) (nI g) (nI n) (nI (mosV (sV σ) (R0 (sV σ)) g n)) Q (r + 1) (nI low) (nI high) h2 := by
          intro r
          induction r with
          | zero =>
            intro low high h2 k1 k2 k3 k4 k5 k6
            unfold f_X8_held_L46
            have : high = low := by omega
            refine br_le (by omega) (by omega) (fun _ => ?_) (fun z => by omega)
            have e := hdF_eq (v := sV σ) (g := g) (n := n) (l := l) (V := V) (x := low) ⟨by rw [← this]; exact k4, k5⟩
            rw [e] at hQ
            exact hQ h2 (hI.junk (k6.jm cX_jm)) (jm_hi (k6.jm cX_jm))
          | succ r ih =>
            intro low high h2 k1 k2 k3 k4 k5 k6
            unfold f_X8_held_L46
            refine br_le (by omega) (by omega) (fun z => ?_) (fun z => ?_)
            · have : high = low := by omega
              have e := hdF_eq (v := sV σ) (g := g) (n := n) (l := l) (V := V) (x := low) ⟨by rw [← this]; exact k4, k5⟩
              rw [e] at hQ
              exact hQ h2 (hI.junk (k6.jm cX_jm)) (jm_hi (k6.jm cX_jm))
            · intro x8 e8
              rw [nI_add, lit 2, nI_div (by omega) (by omega) (by omega)] at e8
              rw [e8]
              have hM1 : HM (sV σ) h2 := hI.1.frame k6 (by intro a k; simp only [cellsM, cellsX]; omega)
              refine m_mostBy hF e1.2 e2.2 hM1 (by omega) (fun V2 f τ h3 sh f3 => ?_)
              have iff := hdP_iff hF e0.2 e2.2 (sh0.mxv hF e2.2) (sh.mxv hF e2.2)
              have dl2 := sh.le hF e2.2
              have ol := own_le (n := n) hF e1.2 e2.2
              refine br_eq (by omega) (by omega) (fun z2 => ?_) (fun z2 => ?_)
              · exact ih low ((low + high) / 2) h3 (by omega) (by omega) (by omega) (iff.mp (by omega)) k5 (k6.trans f3)
              · intro x5 e5
                rw [e5, nI_1]
                refine ih ((low + high) / 2 + 1) high h3 (by omega) k2 (by omega) k4 (fun y hy q => ?_) (k6.trans f3)
                exact z2 (by have := iff.mpr (hdP_up hF e0.2 (by omega) q); omega)
        exact ⟨301, key 300 0 300 h1 (by omega) (by omega) (by omega) (hdP_300 hF e0.2 (sh0.mxv hF e2.2)) (fun y hy => by omega) f1⟩
      · rw [if_neg (fun q => p3 q.2.2)] at hQ
        exact m_finds (by omega) hI hQ fnd0
    · rw [if_neg (fun q => p2 q.2.1)] at hQ
      exact m_finds (by omega) hI hQ fnd0
  · rw [if_neg (fun q => p q.1)] at hQ
    exact m_finds (by omega) hI hQ fnd0
end Ops
