/-! kind, lose, widen -/
section Pr
variable {v : WV} {R R' : Nat → Nat → Nat} {g n m B : Nat} {f : Nat → Nat}
theorem tn_T : nT (tn v R g n) = tnT v g := rfl
theorem tn_H : nH (tn v R g n) = tnH v g := rfl
theorem tnC_R (h : ∀ l, l < vL v → ∀ i, i < 25 → R l i ≤ R' l i) : ∀ a, a < 550 → nC (tn v R g n) a ≤ nC (tn v R' g n) a := by
  intro a ha
  rcases arc3 ha with ⟨s, i, hs, hi, rfl⟩ | ⟨s, i, hs, hi, rfl⟩ | ⟨l, i, hl, hi, rfl⟩
  · rw [(tn_s (v := v) (R := R) (g := g) (n := n) hs hi).2.2, (tn_s (v := v) (R := R') (g := g) (n := n) hs hi).2.2]
    exact Nat.le_refl _
  · rw [(tn_y (v := v) (R := R) (g := g) (n := n) hs hi).2.2, (tn_y (v := v) (R := R') (g := g) (n := n) hs hi).2.2]
    exact Nat.le_refl _
  · rw [(tn_l (v := v) (R := R) (g := g) (n := n) (l := l) hi).2.2, (tn_l (v := v) (R := R') (g := g) (n := n) (l := l) hi).2.2]
    split
    · rename_i z; exact h l z.1 i hi
    · exact Nat.le_refl _
theorem flw_R (h : ∀ a, a < 550 → nC (tn v R g n) a ≤ nC (tn v R' g n) a) (hf : Flw (tn v R g n) 151 150 f) : Flw (tn v R' g n) 151 150 f := ⟨fun a ha => Nat.le_trans (hf.1 a ha) (h a ha), hf.2⟩
/-- less room brings no more -/
theorem mos_le {x y : Nat} (hF : WF m B v) (hn : n ≤ 24) (h : ∀ l, l < vL v → ∀ i, i < 25 → R l i ≤ R' l i) (h1 : MxV (tn v R g n) x) (h2 : MxV (tn v R' g n) y) : x ≤ y := by
  obtain ⟨f, T, a, b⟩ := h1
  obtain ⟨f', T', a', b'⟩ := h2
  have := mx_le (tn_B hF hn) (by omega) (by omega) (by omega) (flw_R (tnC_R h) a.1) a'
  have e : ex (tn v R' g n) f 150 = ex (tn v R g n) f 150 := rfl
  omega
theorem pks_ex {l : Nat} : ∃ pk, PKS v f l pk := by
  have key : ∀ k, ∃ pk, (∀ i, i < k → 0 < f (300 + (25 * l + i)) → f (300 + (25 * l + i)) + sxV v l i ≤ pk) ∧ (pk ≠ 0 → ∃ i, i < k ∧ 0 < f (300 + (25 * l + i)) ∧ pk = f (300 + (25 * l + i)) + sxV v l i) := by
    intro k
    induction k with
    | zero => exact ⟨0, fun i hi => by omega, fun z => absurd rfl z⟩
    | succ k ih =>
      obtain ⟨pk, p1, p2⟩ := ih
      by_cases z : 0 < f (300 + (25 * l + k)) ∧ pk < f (300 + (25 * l + k)) + sxV v l k
      · refine ⟨f (300 + (25 * l + k)) + sxV v l k, fun i hi hf => ?_, fun _ => ⟨k, by omega, z.1, rfl⟩⟩
        by_cases e : i = k
        · rw [e]; exact Nat.le_refl _
        · have := p1 i (by omega) hf; omega
      · refine ⟨pk, fun i hi hf => ?_, fun q => ?_⟩
        · by_cases e : i = k
          · rw [e] at hf ⊢
            apply Decidable.byContradiction
            intro q
            exact z ⟨hf, by omega⟩
          · exact p1 i (by omega) hf
        · obtain ⟨i, i1, i2⟩ := p2 q
          exact ⟨i, by omega, i2⟩
  exact key 25
theorem pkF_0 {l : Nat} (h : ¬ 0 < pkF v f l) : ∀ i, i < 25 → f (300 + (25 * l + i)) = 0 := by
  obtain ⟨pk, hp⟩ := pks_ex (v := v) (f := f) (l := l)
  rw [pkF_eq hp] at h
  intro i hi
  apply Decidable.byContradiction
  intro z
  have := hp.1 i hi (by omega)
  omega
/-- without a line that carries nothing it is as it is -/
theorem mx_idle {l : Nat} {T : Nat → Bool} (hF : WF m B v) (hl : l < vL v) (hm : Mx (tn v (R0 v) g n) 151 150 f T) (h0 : ∀ i, i < 25 → f (300 + (25 * l + i)) = 0) : Mx (tn v (rmB v (nI l) (-1) (-1) 0) g n) 151 150 f T ∧ ex (tn v (rmB v (nI l) (-1) (-1) 0) g n) f 150 = ex (tn v (R0 v) g n) f 150 := by
  have h6 := hF.1
  have le : ∀ a, a < 550 → nC (tn v (rmB v (nI l) (-1) (-1) 0) g n) a ≤ nC (tn v (R0 v) g n) a := tnC_R (fun l' hl' i hi => by rw [rm_cl (by omega) (by omega)]; exact (rm_hl (by omega) (by omega)).1)
  refine mx_same (N := tn v (R0 v) g n) (N' := tn v (rmB v (nI l) (-1) (-1) 0) g n) (tn_A.trans tn_A.symm) (tn_T.trans tn_T.symm) (tn_H.trans tn_H.symm) hm (fun a ha => ?_) (fun a ha q => (hm.2.1.2 a ha).1 (Nat.lt_of_lt_of_le q (le a ha)))
  have fa := hm.1.1 a ha
  rcases arc3 ha with ⟨s, i, hs, hi, rfl⟩ | ⟨s, i, hs, hi, rfl⟩ | ⟨l', i, hl', hi, rfl⟩
  · rw [(tn_s (v := v) (R := R0 v) (g := g) (n := n) hs hi).2.2] at fa
    rw [(tn_s (v := v) (R := rmB v (nI l) (-1) (-1) 0) (g := g) (n := n) hs hi).2.2]; exact fa
  · rw [(tn_y (v := v) (R := R0 v) (g := g) (n := n) hs hi).2.2] at fa
    rw [(tn_y (v := v) (R := rmB v (nI l) (-1) (-1) 0) (g := g) (n := n) hs hi).2.2]; exact fa
  · by_cases z : l' = l
    · rw [z, h0 i hi]; exact Nat.zero_le _
    · rw [(tn_l (v := v) (R := R0 v) (g := g) (n := n) (l := l') hi).2.2] at fa
      rw [(tn_l (v := v) (R := rmB v (nI l) (-1) (-1) 0) (g := g) (n := n) (l := l') hi).2.2, rm_cl (by omega) (by omega), (rm_hl (by omega) (by omega)).2.1 z]
      exact fa
/-- more room where nothing is left over helps nothing -/
theorem mx_far {l : Nat} {T : Nat → Bool} (hF : WF m B v) (hl : l < vL v) (hn : n ≤ 24) (hm : Mx (tn v (R0 v) g n) 151 150 f T) (h0 : ∀ i, i ≤ n → T (nd g (vl v l 1) i) = false) : Mx (tn v (rmB v (-1) (nI l) (-1) 0) g n) 151 150 f T ∧ ex (tn v (rmB v (-1) (nI l) (-1) 0) g n) f 150 = ex (tn v (R0 v) g n) f 150 := by
  have h6 := hF.1
  have le : ∀ a, a < 550 → nC (tn v (R0 v) g n) a ≤ nC (tn v (rmB v (-1) (nI l) (-1) 0) g n) a := tnC_R (fun l' hl' i hi => (rm_wi (by omega) (by omega)).2)
  refine mx_same (N := tn v (R0 v) g n) (N' := tn v (rmB v (-1) (nI l) (-1) 0) g n) (tn_A.trans tn_A.symm) (tn_T.trans tn_T.symm) (tn_H.trans tn_H.symm) hm (fun a ha => Nat.le_trans (hm.1.1 a ha) (le a ha)) (fun a ha q => ?_)
  have cl := (hm.2.1.2 a ha).1
  rcases arc3 ha with ⟨s, i, hs, hi, rfl⟩ | ⟨s, i, hs, hi, rfl⟩ | ⟨l', i, hl', hi, rfl⟩
  · rw [(tn_s (v := v) (R := rmB v (-1) (nI l) (-1) 0) (g := g) (n := n) hs hi).2.2] at q
    rw [(tn_s (v := v) (R := R0 v) (g := g) (n := n) hs hi).2.2] at cl
    exact cl q
  · rw [(tn_y (v := v) (R := rmB v (-1) (nI l) (-1) 0) (g := g) (n := n) hs hi).2.2] at q
    rw [(tn_y (v := v) (R := R0 v) (g := g) (n := n) hs hi).2.2] at cl
    exact cl q
  · have t1 := tn_l (v := v) (R := rmB v (-1) (nI l) (-1) 0) (g := g) (n := n) (l := l') hi
    have t2 := tn_l (v := v) (R := R0 v) (g := g) (n := n) (l := l') hi
    by_cases z : l' = l
    · subst z
      rw [t2.1]
      rw [t1.2.2] at q
      have vl' : l' < vL v ∧ vl v l' 1 ≠ g ∧ i + takesL v l' ≤ n := by
        apply Decidable.byContradiction
        intro z; rw [if_neg z] at q; omega
      intro t
      rw [h0 i (by omega)] at t
      cases t
    · rw [t1.2.2, (rm_wi (by omega) (by omega)).1 z] at q
      rw [t2.2.2] at cl
      exact cl q
end Pr
section Ops
variable {c : Nat} {σ : ST} {h : HP} {Q : Int32 → HP → Prop}
noncomputable def kdV (v : WV) (l g n k : Nat) : Nat := mosV (setL v l 0 k) (R0 (setL v l 0 k)) g n
noncomputable def o_kind (σ : ST) (x1 x2 x3 : Int32) : Int32 × ST := by
  classical exact if isL σ x1 ∧ isAsk σ x2 x3 then (nI ((geF (kdV (sV σ) (nt x1) (nt x2) (nt x3)) 6).1 - 1), σ) else (fnd 0, uF σ 0)
theorem WS_kind {x1 x2 x3 : Int32} (hW : WS c σ) (hc : c < 512) : WS (c + 1) (o_kind σ x1 x2 x3).2 := by
  refine WS_q hW hc ?_
  unfold o_kind
  generalize geF (kdV (sV σ) (nt x1) (nt x2) (nt x3)) 6 = z
  split
  · exact Or.inl rfl
  · exact Or.inr ⟨0, rfl⟩
theorem c_kind {x1 x2 x3 : Int32} (hW : WS c σ) (hI : CI σ h) (hQ : ∀ h', CI (o_kind σ x1 x2 x3).2 h' → LoF h h' → Q (o_kind σ x1 x2 x3).1 h') : f_X7_kind x1 x2 x3 h Q := by
  have hs := hW.small
  have hF := hW.2.1.1
  unfold f_X7_kind
  unfold o_kind at hQ
  refine c_hasL hI.1 hs.2.1 (fun p => br1 ?_) (fun p => br0 ?_)
  · refine c_isAsked hW hI (fun p2 => br1 ?_) (fun p2 => br0 ?_)
    · rw [if_pos ⟨p, p2⟩] at hQ
      have e0 := isL_lt (σ := σ) p
      have e1 := isS_lt p2.1
      have e2 := ask_n p2.2
      generalize nt x1 = l at *
      generalize nt x2 = g at *
      generalize nt x3 = n at *
      rw [e0.1, e1.1, e2.1]
      refine c_become hF hI.1 (Or.inr (by omega)) (fun h9 hC9 f9 => ?_)
      have g1 := geF_1 (f := kdV (sV σ) l g n) 6 (by omega)
      have key := loop_up (L := fun c k => ∀ h1 b kk, FrC h h1 → HC 59 (setL (sV σ) l 0 kk) h1 → (geF (kdV (sV σ) l g n) k).2 ≤ 700000001 → b < 1000 → ((geF (kdV (sV σ) l g n) k).1 ≠ 0 → b + 1 = (geF (kdV (sV σ) l g n) k).1) → f_X7_kind_L47 (nI l) (nI g) (nI n) Q c (nI b) (cd (geF (kdV (sV σ) l g n) k).2) (nI k) h1) 6 0 (by omega) (fun c h1 b kk k1 k0 k2 k3 k4 => ?_) (fun k c _ hk ih h1 b kk k1 k0 k2 k3 k4 => ?_)
      · obtain ⟨c, hc⟩ := key
        refine ⟨c, hc h9 0 (vl (sV σ) l 0) (f9.c (by intro a k; simp only [cellsC]; omega)) ?_ (Nat.zero_le _) (by omega) (fun q => absurd rfl q)⟩
        have e : setL (sV σ) l 0 (vl (sV σ) l 0) = sV σ := by
          unfold setL
          have : (fun l' k' => if l' = l ∧ k' = 0 then vl (sV σ) l 0 else (sV σ).2.2.1 l' k') = (sV σ).2.2.1 := by
            funext l' k'
            split
            · rename_i z; rw [z.1, z.2]; rfl
            · rfl
          rw [this]
        rw [e]; exact hC9
      · unfold f_X7_kind_L47
        refine br_le (a := 6) (by omega) (by omega) (fun _ => ?_) (fun z => by omega)
        have e : (geF (kdV (sV σ) l g n) 6).1 - 1 = b := by have := k4 g1; omega
        rw [e] at hQ
        exact hQ h1 (hI.junk hW k1) k1.lo
      · unfold f_X7_kind_L47
        refine br_le (a := 6) (by omega) (by omega) (fun z => by omega) (fun _ => ⟨vp_in_nI (by omega) (by decide), ?_⟩)
        intro h12 e12
        rw [ix_nI (by omega), show 61 + 7 + 2 * l = 59 + 9 + 2 * l by omega] at e12
        have C12 := hc_setL k0 hs.1 hs.2.1 (l := l) (k := 0) (x := k) e0.2 (by omega)
        rw [← e12, setL_setL] at C12
        have f12 : FrI (cellsC 59) h1 h12 := by rw [e12]; exact FrI.si ⟨by omega, by omega⟩
        have F12 := WF_setL0 (l := l) hF hk
        refine c_mostIn F12 C12 (Or.inr rfl) e1.2 e2.2 (fun A V σ' en lf lev h' d x f => ?_)
        have dm : own (setL (sV σ) l 0 k) g n + V = kdV (sV σ) l g n k := d.mos F12 e2.2
        have dl := d.le F12 e1.2 e2.2
        rw [dm] at dl ⊢
        have fr := (k1.trans (f12.c (by intro a k; simp only [cellsC]; omega))).trans f.c
        have C' : HC 59 (setL (sV σ) l 0 k) h' := x.2.1
        unfold geF at ih
        refine cd_lt (by omega) (by omega) (fun z => ?_) (fun z => ?_)
        · intro x ex
          rw [ex, nI_1]
          rw [if_neg (by omega)] at ih
          exact ih h' b k fr C' k2 k3 k4
        · intro x ex
          rw [ex, nI_1]
          rw [if_pos z] at ih
          have := ih h' k k fr C' (by show kdV (sV σ) l g n k + 1 ≤ 700000001; omega) (by omega) (fun _ => rfl)
          rw [← cd_s (kdV (sV σ) l g n k)]
          exact this
    · rw [if_neg (fun q => p2 q.2)] at hQ
      exact c_found (by omega) hI hQ fnd0 hs
  · rw [if_neg (fun q => p q.1)] at hQ
    exact c_found (by omega) hI hQ fnd0 hs
theorem m_kind {x1 x2 x3 : Int32} (hW : WS c σ) (hI : MI σ h) (hQ : ∀ h', MI (o_kind σ x1 x2 x3).2 h' → HiF h h' → Q (o_kind σ x1 x2 x3).1 h') : f_X8_kind x1 x2 x3 h Q := by
  have hs := hW.small
  have hF := hW.2.1.1
  unfold f_X8_kind
  unfold o_kind at hQ
  refine m_isL hI.1 hs.2.1 (fun p => br1 ?_) (fun p => br0 ?_)
  · refine m_isS hI.1 hs.1 (fun p2 => br1 ?_) (fun p2 => br0 ?_)
    · refine m_isAhead (fun p3 => br1 ?_) (fun p3 => br0 ?_)
      · rw [if_pos ⟨p, p2, p3⟩] at hQ
        have e0 := isL_lt (σ := σ) p
        have e1 := isS_lt (σ := σ) p2
        have e2 := ask_n p3
        generalize nt x1 = l at *
        generalize nt x2 = g at *
        generalize nt x3 = n at *
        rw [e0.1, e1.1, e2.1]
        show f_X8_at (nI l) (nI 0) h _
        rw [m_at hF hI.1 e0.2 (by omega)]
        have g1 := geF_1 (f := kdV (sV σ) l g n) 6 (by omega)
        have key := loop_up (L := fun c k => ∀ h1 b, FrI (fun a k => cellsX a k ∨ (a = 122 ∧ k = 8 * l)) h h1 → (geF (kdV (sV σ) l g n) k).2 ≤ 700000001 → b < 1000 → ((geF (kdV (sV σ) l g n) k).1 ≠ 0 → b + 1 = (geF (kdV (sV σ) l g n) k).1) → f_X8_kind_L47 (nI l) (nI g) (nI n) (nI (vl (sV σ) l 0)) Q c (nI b) (cd (geF (kdV (sV σ) l g n) k).2) (nI k) h1) 6 0 (by omega) (fun c h1 b k1 k2 k3 k4 => ?_) (fun k c _ hk ih h1 b k1 k2 k3 k4 => ?_)
        · obtain ⟨c, hc⟩ := key
          exact ⟨c, hc h 0 FrI.rf (Nat.zero_le _) (by omega) (fun q => absurd rfl q)⟩
        · unfold f_X8_kind_L47
          rw [lit 8, nI_mul, ix_nI (by omega)]
          refine br_le (a := 6) (by omega) (by omega) (fun _ => ⟨vp_in_nI (by omega) (by decide), ?_⟩) (fun z => by omega)
          intro h18 e18
          have e : (geF (kdV (sV σ) l g n) 6).1 - 1 = b := by have := k4 g1; omega
          rw [e] at hQ
          have fr : FrI cellsX h h18 := by
            refine ⟨fun a k z => ?_, fun a k => by rw [e18]; exact k1.2.1 a k, fun j => by rw [e18]; exact k1.2.2 j⟩
            rw [e18, gi_si]
            by_cases q : a = 122 ∧ k = 8 * l
            · rw [if_pos q, q.1, q.2]
              exact (hI.1.2.2.1 l e0.2 0 (by omega)).symm
            · rw [if_neg q, k1.1 a k (fun z2 => z2.elim z q)]
          exact hQ h18 (hI.junk (fr.jm cX_jm)) (jm_hi (fr.jm cX_jm))
        · unfold f_X8_kind_L47
          rw [lit 8, nI_mul, ix_nI (by omega)]
          refine br_le (a := 6) (by omega) (by omega) (fun z => by omega) (fun _ => ⟨vp_in_nI (by omega) (by decide), ?_⟩)
          intro h20 e20
          have M0 : HM (setL (sV σ) l 0 k) (si h 122 (8 * l + 0) (nI k)) := hm_setL hI.1 (by omega)
          have f20 : FrI cellsX (si h 122 (8 * l + 0) (nI k)) h20 := by
            refine ⟨fun a k' z => ?_, fun a k' => by rw [e20]; exact k1.2.1 a k', fun j => by rw [e20]; exact k1.2.2 j⟩
            rw [e20, gi_si, gi_si]
            by_cases q : a = 122 ∧ k' = 8 * l
            · rw [if_pos q, if_pos ⟨q.1, by omega⟩]
            · rw [if_neg q, if_neg (fun q2 => q ⟨q2.1, by omega⟩), k1.1 a k' (fun z2 => z2.elim z q)]
          have M20 := M0.frame f20 (by intro a k; simp only [cellsM, cellsX]; omega)
          have F12 := WF_setL0 (l := l) hF hk
          refine m_mostOf F12 e1.2 e2.2 M20 (fun h' q f => ?_)
          obtain ⟨x, fl, τ, sh⟩ := q
          have dl : kdV (sV σ) l g n k ≤ 700000000 := mosV_le F12 e1.2 e2.2 ⟨x, sh.mxv F12 e2.2⟩
          have fr : FrI (fun a k => cellsX a k ∨ (a = 122 ∧ k = 8 * l)) h h' := (k1.trans (by rw [e20]; exact FrI.si (Or.inr ⟨rfl, rfl⟩))).trans (f.mono (fun _ _ z => Or.inl z))
          show ((nI (kdV (sV σ) l g n k) ≤ _ → _) ∧ _)
          unfold geF at ih
          refine cd_lt (by omega) (by omega) (fun z => ?_) (fun z => ?_)
          · intro x ex
            rw [ex, nI_1]
            rw [if_neg (by omega)] at ih
            exact ih h' b fr k2 k3 k4
          · intro x ex
            rw [ex, nI_1]
            rw [if_pos z] at ih
            have := ih h' k fr (by show kdV (sV σ) l g n k + 1 ≤ 700000001; omega) (by omega) (fun _ => rfl)
            show f_X8_kind_L47 (nI l) (nI g) (nI n) (nI (vl (sV σ) l 0)) Q c (nI k) (nI (kdV (sV σ) l g n k)) (nI (k + 1)) h'
            rw [← cd_s (kdV (sV σ) l g n k)]
            exact this
      · rw [if_neg (fun q => p3 q.2.2)] at hQ
        exact m_finds (by omega) hI hQ fnd0
    · rw [if_neg (fun q => p2 q.2.1)] at hQ
      exact m_finds (by omega) hI hQ fnd0
  · rw [if_neg (fun q => p q.1)] at hQ
    exact m_finds (by omega) hI hQ fnd0
end Ops
