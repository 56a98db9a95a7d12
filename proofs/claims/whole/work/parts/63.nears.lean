/-! near, goal, kind -/
section Ops
variable {c : Nat} {σ : ST} {h : HP} {Q : Int32 → HP → Prop}
noncomputable def o_near (σ : ST) (x1 x2 x3 : Int32) : Int32 × ST := by
  classical exact if isS σ x1 ∧ isAsk σ x2 x3 then (btF (fun k => nrF (tn (sV σ) (R0 (sV σ)) (nt x2) (nt x3)) (nd (nt x2) (nt x1) k)) (nt x3 + 1), σ) else (fnd 0, uF σ 0)
theorem WS_near {x1 x2 x3 : Int32} (hW : WS c σ) (hc : c < 512) : WS (c + 1) (o_near σ x1 x2 x3).2 := by
  refine WS_q hW hc ?_
  unfold o_near
  split
  · exact Or.inl rfl
  · exact Or.inr ⟨0, rfl⟩
theorem FLD.lb {v : WV} {R : Nat → Nat → Nat} {g n m B A V : Nat} {σ en lf lev : Nat → Nat} (hF : WF m B v) (hR : ∀ l i, R l i ≤ 100000) (hd : FLD v R g n A V σ en lf lev h) : ∀ e, e < 2 * A → lf e < 2 ^ 31 := fun e he => by
  have := hd.1.2.1.lb (fun a ha => tnC_le hF hR ha) e he
  omega
/-- what searchNear shows -/
theorem near_nrV {v : WV} {R : Nat → Nat → Nat} {g n A V : Nat} {σ en lf lev nr : Nat → Nat} (hd : FLD v R g n A V σ en lf lev h) (h1 : ECl A en lf (nrB nr)) (h2 : ∀ T2, ECl A en lf T2 → ∀ w, nrB nr w = true → T2 w = true) : NrV (tn v R g n) (nrB nr) := by
  have mx := hd.mx
  have tc := fun T => tr_clo (N := tn v R g n) rfl hd.1.2.1 hd.1.2.2.1 T
  refine ⟨fG A σ lf, ⟨hd.flw.1, (tc _).mp h1, ?_⟩, fun T2 hT => h2 T2 ((tc T2).mpr hT)⟩
  have := h2 _ ((tc _).mpr mx.2.1) 150
  cases q : nrB nr 150
  · rfl
  · have z := this q
    have t0 : (!lvB lev 150) = false := mx.2.2
    have z2 : (!lvB lev 150) = true := z
    rw [t0] at z2
    cases z2
theorem c_near {x1 x2 x3 : Int32} (hW : WS c σ) (hI : CI σ h) (hQ : ∀ h', CI (o_near σ x1 x2 x3).2 h' → LoF h h' → Q (o_near σ x1 x2 x3).1 h') : f_X7_near x1 x2 x3 h Q := by
  have hs := hW.small
  unfold f_X7_near
  unfold o_near at hQ
  refine c_hasS hI.1 hW.small.1 (fun p => br1 ?_) (fun p => br0 ?_)
  · refine c_isAsked hW hI (fun p2 => br1 ?_) (fun p2 => br0 ?_)
    · rw [if_pos ⟨p, p2⟩] at hQ
      have e0 := isS_lt (σ := σ) p
      have e1 := isS_lt p2.1
      have e2 := ask_n p2.2
      generalize nt x1 = s at *
      generalize nt x2 = g at *
      generalize nt x3 = n at *
      rw [e0.1, e1.1, e2.1]
      refine c_mostIn hW.2.1.1 hI.1 (Or.inl rfl) e1.2 e2.2 (fun A V σ' en lf lev h' d x f => ?_)
      refine c_searchNear d.1.1 (d.lb hW.2.1.1 (rmB_fB hW.2.1.1).1) (fun nr h2 a1 a2 a3 a4 a5 => ?_)
      have x2 := x.frame hs.1 hs.2.1 a5 (by intro a k; simp only [cellsS]; omega)
      have d2 := d.frame a5
      refine c_ticksNear x2 (by omega) (by omega) e2.2 d2.2.2.1 a4 a3 ?_
      have fr := (f.trans (a5.o (by intro a k; simp only [cellsS, cellsO]; omega))).c
      rw [btF_congr (T' := fun k => nrF (tn (sV σ) (R0 (sV σ)) g n) (nd g s k)) (fun k _ => (nrF_eq (tn_B hW.2.1.1 e2.2) (near_nrV d a1 a2) _).symm)]
      exact hQ h2 (hI.junk hW fr) fr.lo
    · rw [if_neg (fun q => p2 q.2)] at hQ
      exact c_found (by omega) hI hQ fnd0 hW.small
  · rw [if_neg (fun q => p q.1)] at hQ
    exact c_found (by omega) hI hQ fnd0 hW.small
theorem Shw.nr {v : WV} {R : Nat → Nat → Nat} {g n m B x : Nat} {f : Nat → Nat} {τ : SB} (hF : WF m B v) (hn : n ≤ 24) (hs : Shw v R g n x f τ h) : NrV (tn v R g n) (nrT v τ) := ⟨f, hs.mx hF hn, srch_least hF hn hs.2.2.2.2.1⟩
theorem m_near {x1 x2 x3 : Int32} (hW : WS c σ) (hI : MI σ h) (hQ : ∀ h', MI (o_near σ x1 x2 x3).2 h' → HiF h h' → Q (o_near σ x1 x2 x3).1 h') : f_X8_near x1 x2 x3 h Q := by
  have hs := hW.small
  unfold f_X8_near
  unfold o_near at hQ
  refine m_isS hI.1 hW.small.1 (fun p => br1 ?_) (fun p => br0 ?_)
  · refine m_isS hI.1 hW.small.1 (fun p2 => br1 ?_) (fun p2 => br0 ?_)
    · refine m_isAhead (fun p3 => br1 ?_) (fun p3 => br0 ?_)
      · rw [if_pos ⟨p, p2, p3⟩] at hQ
        have e0 := isS_lt (σ := σ) p
        have e1 := isS_lt (σ := σ) p2
        have e2 := ask_n p3
        generalize nt x1 = s at *
        generalize nt x2 = g at *
        generalize nt x3 = n at *
        rw [e0.1, e1.1, e2.1]
        refine m_mostOf hW.2.1.1 e1.2 e2.2 hI.1 (fun h' q f => ?_)
        obtain ⟨x, fl, τ, sh⟩ := q
        have hv := sh.2.2.2.2.1
        have hh := sh.2.2.2.2.2.1
        have fin := hQ h' (hI.junk (f.jm cX_jm)) (jm_hi (f.jm cX_jm))
        rw [btF_congr (T' := fun k => decide (bB τ (25 * s + k) ≠ 0)) (fun k hk => ?_)] at fin
        · refine loop_up (L := fun c k => f_X8_near_L43 (nI s) (nI n) Q c (btF (fun k => decide (bB τ (25 * s + k) ≠ 0)) k) (nI k) h') (n + 1) 0 (by omega) (fun c => ?_) (fun k c _ hk ih => ?_)
          · unfold f_X8_near_L43
            exact br_lt (by omega) (by omega) (fun _ => fin) (fun z => by omega)
          · unfold f_X8_near_L43
            refine br_lt (by omega) (by omega) (fun z => by omega) (fun _ => ?_)
            rw [lit 25, nI_mul, nI_add, ix_nI (by omega), hh.1 _ (by omega)]
            refine ⟨vp_in_nI (by omega) (by decide), ?_⟩
            intro x4 e4 x5 e5
            rw [e5, nI_1 k]
            unfold btF at ih
            by_cases z : bB τ (25 * s + k) = 0
            · rw [if_neg (by rw [decide_eq_true_iff]; exact fun q => q z)] at ih
              rw [z, if_pos (show nI 0 = 0 from rfl)] at e4
              have e4' : x4 = btF (fun k => decide (bB τ (25 * s + k) ≠ 0)) k := by
                rw [e4, btF_bn (by omega)]
                show nI _ ||| nI 0 = _
                rw [nI_or, Nat.or_zero]
              rw [e4']; exact ih
            · rw [if_pos (by rw [decide_eq_true_iff]; exact z)] at ih
              have lb := (hv.1 _ (by omega) z).2.2.1
              rw [if_neg (nI_ne0 (by omega) (by omega))] at e4
              rw [e4]; exact ih
        · show nrF _ _ = _
          rw [nrF_eq (tn_B hW.2.1.1 e2.2) (sh.nr hW.2.1.1 e2.2)]
          by_cases z : s = g
          · unfold nd
            rw [if_pos z, nrT_0]
            symm
            rw [decide_eq_false_iff_not]
            intro q
            have := (hv.1 (25 * s + k) (by omega) q).1
            omega
          · have t := nrT_nd (v := sV σ) (σ := τ) (g := g) (s := s) (i := k) (by omega) (by omega) z
            cases q : nrT (sV σ) τ (nd g s k)
            · symm
              rw [decide_eq_false_iff_not]
              intro q2
              rw [t.mpr ⟨e0.2, q2⟩] at q
              cases q
            · symm
              rw [decide_eq_true_iff]
              exact (t.mp q).2
      · rw [if_neg (fun q => p3 q.2.2)] at hQ
        exact m_finds (by omega) hI hQ fnd0
    · rw [if_neg (fun q => p2 q.2.1)] at hQ
      exact m_finds (by omega) hI hQ fnd0
  · rw [if_neg (fun q => p q.1)] at hQ
    exact m_finds (by omega) hI hQ fnd0
/-- the greatest, the first that is: code of the best (0: none), the greatest -/
def gtF (f : Nat → Nat) : Nat → Nat × Nat → Nat × Nat
  | 0, p => p
  | k + 1, p => if (gtF f k p).2 < f k then (k + 1, f k) else gtF f k p
/-- as gtF, but that what was greatest is one more, 0 for none -/
def geF (f : Nat → Nat) : Nat → Nat × Nat
  | 0 => (0, 0)
  | k + 1 => if (geF f k).2 ≤ f k then (k + 1, f k + 1) else geF f k
theorem geF_le {f : Nat → Nat} {b : Nat} (hf : ∀ i, f i ≤ b) : ∀ k, (geF f k).2 ≤ b + 1 ∧ (geF f k).1 ≤ k
  | 0 => ⟨Nat.zero_le _, Nat.le_refl _⟩
  | k + 1 => by
    have := geF_le hf k
    have := hf k
    unfold geF
    split
    · exact ⟨by show f k + 1 ≤ b + 1; omega, Nat.le_refl _⟩
    · omega
theorem geF_1 {f : Nat → Nat} : ∀ k, 0 < k → (geF f k).1 ≠ 0
  | 0, h => by omega
  | k + 1, _ => by
    unfold geF
    split
    · show k + 1 ≠ 0; omega
    · rename_i z
      by_cases e : k = 0
      · subst e; exact absurd (Nat.zero_le _) z
      · exact geF_1 k (by omega)
theorem mosV_le {v : WV} {R : Nat → Nat → Nat} {g n m B : Nat} (hF : WF m B v) (hg : g < vS v) (hn : n ≤ 24) (he : ∃ x, MxV (tn v R g n) x) : mosV v R g n ≤ 700000000 := by
  obtain ⟨x, hx⟩ := he
  unfold mosV
  rw [mxF_eq (tn_B hF hn) hx]
  obtain ⟨f, T, a, b⟩ := hx
  have := val_le hF hn a.1
  have := own_le hF hg hn
  omega
/-- a code's test, and the next -/
theorem cd_lt {a : Nat} {b : Nat} {A B : Prop} (ha : a < 2 ^ 31) (hb : b < 2 ^ 31) (h1 : a < b → A) (h2 : b ≤ a → B) : (nI a ≤ cd b → A) ∧ (¬ nI a ≤ cd b → B) := by
  cases b with
  | zero =>
    refine ⟨fun z => ?_, fun _ => h2 (by omega)⟩
    rw [cd_0, i32_le, nI_toInt ha, show (-1 : Int32).toInt = -1 by decide +kernel] at z
    omega
  | succ b => rw [cd_s]; exact br_le ha (by omega) (fun z => h1 (by omega)) (fun z => h2 (by omega))
noncomputable def o_goal (σ : ST) (x1 : Int32) : Int32 × ST := by
  classical exact if InR x1 0 24 then ans σ (cd (geF (fun s => mosV (sV σ) (R0 (sV σ)) s (nt x1)) (vS (sV σ))).1) 3 else (fnd 0, uF σ 0)
theorem WS_goal {x1 : Int32} (hW : WS c σ) (hc : c < 512) : WS (c + 1) (o_goal σ x1).2 := by
  refine WS_q hW hc ?_
  unfold o_goal
  split
  · exact ans_q
  · exact Or.inr ⟨0, rfl⟩
theorem c_goal {x1 : Int32} (hW : WS c σ) (hI : CI σ h) (hQ : ∀ h', CI (o_goal σ x1).2 h' → LoF h h' → Q (o_goal σ x1).1 h') : f_X7_goal x1 h Q := by
  have hs := hW.small
  have hF := hW.2.1.1
  unfold f_X7_goal
  unfold o_goal at hQ
  refine c_in (a := 0) (b := 24) rfl rfl (fun p => br1 ?_) (fun p => br0 ?_)
  · rw [if_pos p] at hQ
    have e2 := ask_n p
    generalize nt x1 = n at *
    rw [e2.1]
    have key := loop_up (L := fun c s => ∀ h1, FrC h h1 → (geF (fun s => mosV (sV σ) (R0 (sV σ)) s n) s).2 ≤ 700000001 → f_X7_goal_L24 (nI n) (fun x2_10 h11 => (((0 ≤ x2_10) → Q x2_10 h11) ∧ (¬ (0 ≤ x2_10) → f_X7_found (-1000000004 : Int32) h11 (fun v14 h13 => Q v14 h13)))) Q c (cd (geF (fun s => mosV (sV σ) (R0 (sV σ)) s n) s).1) (cd (geF (fun s => mosV (sV σ) (R0 (sV σ)) s n) s).2) (nI s) h1) (vS (sV σ)) 0 (by omega) (fun c h1 k1 k2 => ?_) (fun s c _ hs' ih h1 k1 k2 => ?_)
    · obtain ⟨c, hc⟩ := key
      exact ⟨c, hc h FrC.rf (Nat.zero_le _)⟩
    · unfold f_X7_goal_L24
      have hC1 := hI.1.fc k1 (by omega) hs.1 hs.2.1
      rw [hC1.1.2.2.1]
      exact br_le (by omega) (by omega) (fun _ => c_ans hW hI k1 hQ) (fun z => by omega)
    · unfold f_X7_goal_L24
      have hC1 := hI.1.fc k1 (by omega) hs.1 hs.2.1
      rw [hC1.1.2.2.1]
      refine br_le (by omega) (by omega) (fun z => by omega) (fun _ => ?_)
      refine c_mostIn hF hC1 (Or.inl rfl) hs' e2.2 (fun A V σ' en lf lev h' d x f => ?_)
      have dl := d.le hF hs' e2.2
      have dm : own (sV σ) s n + V = mosV (sV σ) (R0 (sV σ)) s n := d.mos hF e2.2
      rw [dm] at dl ⊢
      have fr := k1.trans f.c
      unfold geF at ih
      refine cd_lt (by omega) (by omega) (fun z => ?_) (fun z => ?_)
      · intro x ex
        rw [ex, nI_1]
        rw [if_neg (by omega)] at ih
        exact ih h' fr k2
      · intro x ex
        rw [ex, nI_1]
        rw [if_pos z] at ih
        have := ih h' fr (by show mosV (sV σ) (R0 (sV σ)) s n + 1 ≤ 700000001; omega)
        rw [← cd_s s, ← cd_s (mosV (sV σ) (R0 (sV σ)) s n)]
        exact this
  · rw [if_neg p] at hQ
    exact c_found (by omega) hI hQ fnd0 hW.small
theorem m_goal {x1 : Int32} (hW : WS c σ) (hI : MI σ h) (hQ : ∀ h', MI (o_goal σ x1).2 h' → HiF h h' → Q (o_goal σ x1).1 h') : f_X8_goal x1 h Q := by
  have hs := hW.small
  have hF := hW.2.1.1
  unfold f_X8_goal
  unfold o_goal at hQ
  refine m_isAhead (fun p => br1 ?_) (fun p => br0 ?_)
  · rw [if_pos p] at hQ
    have e2 := ask_n p
    generalize nt x1 = n at *
    rw [e2.1, hI.1.1.2.2.1]
    refine br_eq (b := 0) (by omega) (by omega) (fun z => ?_) (fun z => ?_)
    · rw [z] at hQ
      have e : ans σ (cd (geF (fun s => mosV (sV σ) (R0 (sV σ)) s n) 0).1) 3 = (fnd 3, uF σ 3) := by
        unfold ans
        have e0 : (geF (fun s => mosV (sV σ) (R0 (sV σ)) s n) 0).1 = 0 := rfl
        rw [e0, if_neg (by decide +kernel)]
      rw [e] at hQ
      exact m_finds (by omega) hI hQ fnd3
    · have g1 := geF_1 (f := fun s => mosV (sV σ) (R0 (sV σ)) s n) (vS (sV σ)) (by omega)
      have key := loop_up (L := fun c s => ∀ h1 b, FrI cellsX h h1 → (geF (fun s => mosV (sV σ) (R0 (sV σ)) s n) s).2 ≤ 700000001 → b < 1000 → ((geF (fun s => mosV (sV σ) (R0 (sV σ)) s n) s).1 ≠ 0 → b + 1 = (geF (fun s => mosV (sV σ) (R0 (sV σ)) s n) s).1) → f_X8_goal_L36 (nI n) Q c (nI b) (cd (geF (fun s => mosV (sV σ) (R0 (sV σ)) s n) s).2) (nI s) h1) (vS (sV σ)) 0 (by omega) (fun c h1 b k1 k2 k3 k4 => ?_) (fun s c _ hs' ih h1 b k1 k2 k3 k4 => ?_)
      · obtain ⟨c, hc⟩ := key
        exact ⟨c, hc h 0 FrI.rf (Nat.zero_le _) (by omega) (fun q => absurd rfl q)⟩
      · unfold f_X8_goal_L36
        have hM1 : HM (sV σ) h1 := hI.1.frame k1 (by intro a k; simp only [cellsM, cellsX]; omega)
        rw [hM1.1.2.2.1]
        refine br_le (by omega) (by omega) (fun _ => ?_) (fun z => by omega)
        have e : ans σ (cd (geF (fun s => mosV (sV σ) (R0 (sV σ)) s n) (vS (sV σ))).1) 3 = (nI b, σ) := by
          unfold ans
          rw [← k4 g1, cd_s, if_pos (nI_ge0 (by omega))]
        rw [e] at hQ
        exact hQ h1 (hI.junk (k1.jm cX_jm)) (jm_hi (k1.jm cX_jm))
      · unfold f_X8_goal_L36
        have hM1 : HM (sV σ) h1 := hI.1.frame k1 (by intro a k; simp only [cellsM, cellsX]; omega)
        rw [hM1.1.2.2.1]
        refine br_le (by omega) (by omega) (fun z => by omega) (fun _ => ?_)
        refine m_mostOf hF hs' e2.2 hM1 (fun h' q f => ?_)
        obtain ⟨x, fl, τ, sh⟩ := q
        have dl := mosV_le hF hs' e2.2 ⟨x, sh.mxv hF e2.2⟩
        have fr := k1.trans f
        unfold geF at ih
        refine cd_lt (by omega) (by omega) (fun z => ?_) (fun z => ?_)
        · intro x ex
          rw [ex, nI_1]
          rw [if_neg (by omega)] at ih
          exact ih h' b fr k2 k3 k4
        · intro x ex
          rw [ex, nI_1]
          rw [if_pos z] at ih
          have := ih h' s fr (by show mosV (sV σ) (R0 (sV σ)) s n + 1 ≤ 700000001; omega) (by omega) (fun _ => rfl)
          rw [← cd_s (mosV (sV σ) (R0 (sV σ)) s n)]
          exact this
  · rw [if_neg p] at hQ
    exact m_finds (by omega) hI hQ fnd0
end Ops
