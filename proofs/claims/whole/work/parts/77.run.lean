/-! replay, run -/
section Ops
variable {c : Nat} {σ : ST} {h : HP} {Q : Int32 → HP → Prop}
/-- what a plan comes to -/
noncomputable abbrev plS (σ : ST) (s n : Nat) : Nat × WV := plF (sN σ s) (sZ σ s / 3) (sV σ) n
/-- its answer -/
noncomputable def plA (σ : ST) (s g n : Nat) : Int32 := if (plS σ s n).1 = 0 then nI (vs (plS σ s n).2 g 1) else -1 - nI ((plS σ s n).1 - 1)
noncomputable def o_replay (σ : ST) (x1 x2 x3 : Int32) : Int32 × ST := by
  classical exact if isH σ x1 then (if isAsk σ x2 x3 then (plA σ (nt x1) (nt x2) (nt x3), σ) else (fnd 0, uF σ 0)) else (fnd (hF5 σ x1), uF σ (hF5 σ x1))
noncomputable def o_run (σ : ST) (x1 x2 x3 : Int32) : Int32 × ST := by
  classical exact if isH σ x1 then (if isAsk σ x2 x3 then (if vT (sV σ) + nt x3 ≤ 99999 then (plA σ (nt x1) (nt x2) (nt x3), if (plS σ (nt x1) (nt x3)).1 = 0 then uV σ (plS σ (nt x1) (nt x3)).2 else σ) else (fnd 4, uF σ 4)) else (fnd 0, uF σ 0)) else (fnd (hF5 σ x1), uF σ (hF5 σ x1))
theorem WS_replay {x1 x2 x3 : Int32} (hW : WS c σ) (hc : c < 512) : WS (c + 1) (o_replay σ x1 x2 x3).2 := by
  refine WS_q hW hc ?_
  unfold o_replay
  split
  · split
    · exact Or.inl rfl
    · exact Or.inr ⟨0, rfl⟩
  · exact Or.inr ⟨_, rfl⟩
theorem WS_run {x1 x2 x3 : Int32} (hW : WS c σ) (hc : c < 512) : WS (c + 1) (o_run σ x1 x2 x3).2 := by
  have h' := hW.up (Nat.le_succ c) hc
  unfold o_run
  split
  · split
    · rename_i p
      have e2 := ask_n p.2
      split
      · rename_i q
        show WS (c + 1) (if (plS σ (nt x1) (nt x3)).1 = 0 then uV σ (plS σ (nt x1) (nt x3)).2 else σ)
        split
        · have w := WF_pl (r := sN σ (nt x1)) (K := sZ σ (nt x1) / 3) hW.2.1.1 (nt x3) (by omega)
          have wt := w.2.1
          exact WS_V hW hc (WF_up w.1 (by omega) (by omega)) (Nat.le_trans wt q)
        · exact h'
      · exact WS_F hW hc
    · exact WS_F hW hc
  · exact WS_F hW hc
/-- the class's plan in thought -/
theorem c_followW {s g n : Nat} (hW : WS c σ) (hI : CI σ h) (hs4 : s < 4) (hg : g < vS (sV σ)) (hn : n ≤ 24) (hQ : ∀ h', HC 59 (plS σ s n).2 h' → FrC h h' → Q (plA σ s g n) h') : f_X7_follow (nI s) (nI g) (nI n) h Q := by
  have hs := hW.small
  have hF := hW.2.1.1
  have hT := hW.2.1.2
  unfold f_X7_follow
  refine c_become hF hI.1 (Or.inr (by omega)) (fun h1 hC1 f1 => ?_)
  rw [ix_nI (by omega), ix_nI (by omega), show 107 + 2 + 2 * s = 109 + 2 * s by omega]
  have I := hI.2.2.2.2 s hs4
  have hz := (hW.2.2.2.2.2 s hs4).2.1
  refine ⟨vp_in_nI hs4 (by decide), ?_⟩
  refine c_follow (r := sN σ s) (z := sZ σ s) hF hC1 (by omega) hn (by omega) (by rw [f1.1 _ _ (by simp only [cellsC]; omega)]; exact I.2.1) hz (fun i hi => by rw [f1.2.1, show 109 + 2 * s + 1 = 110 + 2 * s by omega]; exact I.2.2 i hi) (fun h2 C2 f2 => ?_)
  have fr : FrC h h2 := (f1.trans f2).c (by intro a k; simp only [cellsC]; omega)
  have w := WF_pl (r := sN σ s) (K := sZ σ s / 3) hF n (by omega)
  refine ⟨fun _ => vp_in_nI (by omega) (by decide), ?_⟩
  have fin := hQ h2 C2 fr
  unfold plA at fin
  by_cases q : (plS σ s n).1 = 0
  · rw [if_pos q] at fin
    have q' : (plF (sN σ s) (sZ σ s / 3) (sV σ) n).1 = 0 := q
    rw [q', cd_0, if_pos (by decide +kernel), show 60 + 2 + g = 59 + 3 + g by omega, C2.2.1 g (by rw [w.2.2.1]; exact hg) 1 (by omega)]
    exact fin
  · rw [if_neg q] at fin
    obtain ⟨y, hy⟩ : ∃ y, (plF (sN σ s) (sZ σ s / 3) (sV σ) n).1 = y + 1 := ⟨(plF (sN σ s) (sZ σ s / 3) (sV σ) n).1 - 1, by have q' : (plF (sN σ s) (sZ σ s / 3) (sV σ) n).1 ≠ 0 := q; omega⟩
    have hy' : (plS σ s n).1 = y + 1 := hy
    rw [hy', Nat.add_sub_cancel] at fin
    rw [hy, cd_s, if_neg (by rw [i32_lt, nI_toInt (by omega), i32_0]; omega)]
    exact fin
theorem pl_neg {s g n : Nat} (hW : WS c σ) (hs4 : s < 4) (hg : g < vS (sV σ)) (hn : n ≤ 24) : plA σ s g n < 0 ↔ (plS σ s n).1 ≠ 0 := by
  have hT := hW.2.1.2
  have hz := (hW.2.2.2.2.2 s hs4).2.1
  have w := WF_pl (r := sN σ s) (K := sZ σ s / 3) hW.2.1.1 n (by omega)
  unfold plA
  by_cases q : (plS σ s n).1 = 0
  · rw [if_pos q, i32_lt, i32_0]
    have st := w.1.stock (s := g) (by rw [w.2.2.1]; exact hg)
    have st' : vs (plS σ s n).2 g 1 ≤ 4000000 := st
    rw [nI_toInt (by omega)]
    exact ⟨fun z => by omega, fun z => absurd q z⟩
  · rw [if_neg q]
    refine ⟨fun _ => q, fun _ => ?_⟩
    have k := w.2.2.2.2
    have k' : (plS σ s n).1 ≤ sZ σ s / 3 := k
    have : ∀ y, y < 100 → (-1 - nI y : Int32) < 0 := by decide +kernel
    exact this _ (by omega)
theorem c_planF {x1 x2 x3 : Int32} {K : HP → Prop} (hW : WS c σ) (hI : CI σ h) (h1 : isH σ x1 → isAsk σ x2 x3 → K h) (h2 : isH σ x1 → ¬ isAsk σ x2 x3 → f_X7_found (fnd 0) h (fun v h1 => Q v h1)) (h3 : ¬ isH σ x1 → f_X7_found (fnd (hF5 σ x1)) h (fun v h1 => Q v h1)) : f_X7_planFault x1 x2 x3 h (fun v2 h1 => (((v2 = 0) → K h1) ∧ (¬ (v2 = 0) → f_X7_found v2 h1 (fun v h2 => Q v h2)))) := by
  unfold f_X7_planFault
  refine c_sheetF hW hI (fun p => br_f (fnd_n0 (by omega)) (br_f (fnd_n0 (by omega)) ?_)) (fun p q => br_f (fnd_n0 (by omega)) (br_f (fnd_n0 (by omega)) ?_)) (fun p q => br_t rfl ?_)
  · have := h3 (fun z => p z.1)
    unfold hF5 at this
    rw [if_neg p] at this; exact this
  · have := h3 (fun z => z.2 q)
    unfold hF5 at this
    rw [if_pos p] at this; exact this
  · refine c_isAsked hW hI (fun p2 => ?_) (fun p2 => ?_)
    · rw [if_neg n10]
      exact br_t rfl (h1 ⟨p, q⟩ p2)
    · rw [if_pos rfl, fnd0]
      exact br_f (fnd_n0 (by omega)) (h2 ⟨p, q⟩ p2)
theorem c_replay {x1 x2 x3 : Int32} (hW : WS c σ) (hI : CI σ h) (hQ : ∀ h', CI (o_replay σ x1 x2 x3).2 h' → LoF h h' → Q (o_replay σ x1 x2 x3).1 h') : f_X7_replay x1 x2 x3 h Q := by
  have hs := hW.small
  unfold f_X7_replay
  unfold o_replay at hQ
  refine c_planF hW hI (fun p p2 => ?_) (fun p p2 => ?_) (fun p => ?_)
  · rw [if_pos p, if_pos p2] at hQ
    have e := sh_lt p.1
    have e1 := isS_lt p2.1
    have e2 := ask_n p2.2
    generalize nt x1 = s at *
    generalize nt x2 = g at *
    generalize nt x3 = n at *
    rw [e.1, e1.1, e2.1]
    exact c_followW hW hI e.2 e1.2 e2.2 (fun h' C f => hQ h' (hI.junk hW f) f.lo)
  · rw [if_pos p, if_neg p2] at hQ
    exact c_found (by omega) hI hQ rfl hs
  · rw [if_neg p] at hQ
    exact c_found hF5_lt hI hQ rfl hs
theorem c_run {x1 x2 x3 : Int32} (hW : WS c σ) (hI : CI σ h) (hQ : ∀ h', CI (o_run σ x1 x2 x3).2 h' → LoF h h' → Q (o_run σ x1 x2 x3).1 h') : f_X7_run x1 x2 x3 h Q := by
  have hs := hW.small
  have hT := hW.2.1.2
  unfold f_X7_run
  unfold o_run at hQ
  refine c_planF hW hI (fun p p2 => ?_) (fun p p2 => ?_) (fun p => ?_)
  · rw [if_pos p, if_pos p2] at hQ
    have e := sh_lt p.1
    have e1 := isS_lt p2.1
    have e2 := ask_n p2.2
    generalize nt x1 = s at *
    generalize nt x2 = g at *
    generalize nt x3 = n at *
    rw [e.1, e1.1, e2.1, hI.1.1.1, nI_add]
    refine br_le (b := 99999) (by omega) (by omega) (fun z => ?_) (fun z => ?_)
    · rw [if_pos z] at hQ
      refine c_followW hW hI e.2 e1.2 e2.2 (fun h' C f => ?_)
      have pn := pl_neg hW e.2 e1.2 e2.2
      have I' := hI.junk hW f
      by_cases q : (plS σ s n).1 = 0
      · refine br_f (fun z2 => (pn.mp z2) q) ?_
        have w := WF_pl (r := sN σ s) (K := sZ σ s / 3) hW.2.1.1 n (by omega)
        refine c_become w.1 C (Or.inl (by omega)) (fun h8 C8 f8 => ?_)
        have st : (plA σ s g n, if (plS σ s n).1 = 0 then uV σ (plS σ s n).2 else σ) = (plA σ s g n, uV σ (plS σ s n).2) := by rw [if_pos q]
        rw [st] at hQ
        exact hQ h8 (I'.world hW C8 f8) (f.lo.trans (f8.lo (by intro a k; simp only [cellsC]; omega)))
      · refine br_t (pn.mpr q) ?_
        have st : (plA σ s g n, if (plS σ s n).1 = 0 then uV σ (plS σ s n).2 else σ) = (plA σ s g n, σ) := by rw [if_neg q]
        rw [st] at hQ
        exact hQ h' I' f.lo
    · rw [if_neg (by omega)] at hQ
      exact c_found (by omega) hI hQ fnd4 hs
  · rw [if_pos p, if_neg p2] at hQ
    exact c_found (by omega) hI hQ rfl hs
  · rw [if_neg p] at hQ
    exact c_found hF5_lt hI hQ rfl hs
/-- the reference's plan: x4 says whether truly -/
theorem m_plansJ {s g n : Nat} {x4 : Int32} (hW : WS c σ) (hI : MI σ h) (hs4 : s < 4) (hg : g < vS (sV σ)) (hn : n ≤ 24) (hx : x4 = 0 ∨ x4 = 1) (hQ : ∀ h', MI (if x4 = 1 ∧ (plS σ s n).1 = 0 then uV σ (plS σ s n).2 else σ) h' → HiF h h' → Q (plA σ s g n) h') : f_X8_plans_J76 (nI s) (nI g) (nI n) x4 Q h := by
  have hs := hW.small
  have hF := hW.2.1.1
  have hT := hW.2.1.2
  have hz := (hW.2.2.2.2.2 s hs4).2.1
  unfold f_X8_plans_J76
  refine m_keeps hF hI.1 (Or.inr rfl) (fun h1 K1 f1 => ?_)
  have I1 : MI σ h1 := hI.junk (f1.jm (by intro a k; simp only [junkM]; omega))
  have I := I1.2.2.2.2 s hs4
  refine m_goesBy (r := sN σ s) (z := sZ σ s) hF I1.1 (by omega) hn hs4 I.2.1 hz I.2.2 (fun h2 M2 f2 => ?_)
  have w := WF_pl (r := sN σ s) (K := sZ σ s / 3) hF n (by omega)
  refine ⟨fun _ => vp_in_nI (by omega) (by decide), ?_⟩
  intro x6 e6
  have K2 : HK 145 (sV σ) h2 := K1.frame f2 (by intro k; simp only [cellsM]; omega)
  have fr1 : HiF h h2 := (f1.hi (by intro a k; omega)).trans (f2.hi (by intro a k; simp only [cellsM]; omega))
  have ex6 : x6 = plA σ s g n := by
    rw [e6]
    unfold plA
    by_cases q : (plS σ s n).1 = 0
    · have q' : (plF (sN σ s) (sZ σ s / 3) (sV σ) n).1 = 0 := q
      rw [if_pos q, q', cd_0, if_neg (by decide +kernel), ix_nI (by omega), (M2.2.1 g (by rw [w.2.2.1]; exact hg)).2.1]
    · obtain ⟨y, hy⟩ : ∃ y, (plF (sN σ s) (sZ σ s / 3) (sV σ) n).1 = y + 1 := ⟨(plF (sN σ s) (sZ σ s / 3) (sV σ) n).1 - 1, by have q' : (plF (sN σ s) (sZ σ s / 3) (sV σ) n).1 ≠ 0 := q; omega⟩
      have hy' : (plS σ s n).1 = y + 1 := hy
      rw [if_neg q, hy', cd_s, if_pos (nI_ge0 (by omega)), Nat.add_sub_cancel]
  rw [ex6]
  -- all comes back
  have back : ¬ (x4 = 1 ∧ (plS σ s n).1 = 0) → f_X8_comesBack 145 h2 (fun h3 => Q (plA σ s g n) h3) := by
    intro q
    rw [if_neg q] at hQ
    refine m_comesBack hF K2 (Or.inr rfl) (fun h3 M3 f3 => ?_)
    have f23 : FrI cellsM h1 h3 := f2.trans f3
    have := I1.world M3 f23
    exact hQ h3 this ((f1.hi (by intro a k; omega)).trans (f23.hi (by intro a k; simp only [cellsM]; omega)))
  rcases hx with hx | hx
  · rw [hx]
    exact br_t rfl (back (fun q => by rw [hx] at q; exact absurd q.1 (by decide +kernel)))
  · rw [hx]
    refine br_f (by decide +kernel) ?_
    by_cases q : (plS σ s n).1 = 0
    · have q' : (plF (sN σ s) (sZ σ s / 3) (sV σ) n).1 = 0 := q
      rw [q', cd_0]
      refine br_t (by decide +kernel) ?_
      rw [if_pos ⟨hx, q⟩] at hQ
      exact hQ h2 (I1.world M2 f2) fr1
    · obtain ⟨y, hy⟩ : ∃ y, (plF (sN σ s) (sZ σ s / 3) (sV σ) n).1 = y + 1 := ⟨(plF (sN σ s) (sZ σ s / 3) (sV σ) n).1 - 1, by have q' : (plF (sN σ s) (sZ σ s / 3) (sV σ) n).1 ≠ 0 := q; omega⟩
      rw [hy, cd_s]
      exact br_f (by rw [i32_lt, nI_toInt (by have := w.2.2.2.2; omega), i32_0]; omega) (back (fun q2 => q q2.2))
theorem m_plansP {x1 x2 x3 x4 : Int32} (hW : WS c σ) (hI : MI σ h) (h1 : isH σ x1 → isAsk σ x2 x3 → ((x4 = 0) → f_X8_plans_J76 x1 x2 x3 x4 Q h) ∧ (¬ (x4 = 0) → (((((gi h 117 1) + x3) ≤ 99999) → f_X8_plans_J76 x1 x2 x3 x4 Q h) ∧ (¬ (((gi h 117 1) + x3) ≤ 99999) → f_X8_finds (-1000000005 : Int32) h (fun v28 h27 => Q v28 h27))))) (h2 : isH σ x1 → ¬ isAsk σ x2 x3 → f_X8_finds (fnd 0) h (fun v h1 => Q v h1)) (h3 : ¬ isH σ x1 → f_X8_finds (fnd (hF5 σ x1)) h (fun v h1 => Q v h1)) : f_X8_plans x1 x2 x3 x4 h Q := by
  have hs := hW.small
  unfold f_X8_plans
  refine m_sheetU hW hI (fun p => ?_) h3
  refine m_isS hI.1 hs.1 (fun q => br1 ?_) (fun q => br0 ?_)
  · refine m_isAhead (fun q2 => br1 (h1 p ⟨q, q2⟩)) (fun q2 => br0 ?_)
    rw [fnd0]; exact h2 p (fun z => q2 z.2)
  · rw [fnd0]; exact h2 p (fun z => q z.1)
theorem m_replay {x1 x2 x3 : Int32} (hW : WS c σ) (hI : MI σ h) (hQ : ∀ h', MI (o_replay σ x1 x2 x3).2 h' → HiF h h' → Q (o_replay σ x1 x2 x3).1 h') : f_X8_replay x1 x2 x3 h Q := by
  unfold f_X8_replay
  unfold o_replay at hQ
  refine m_plansP hW hI (fun p p2 => br_t rfl ?_) (fun p p2 => ?_) (fun p => ?_)
  · rw [if_pos p, if_pos p2] at hQ
    have e := sh_lt p.1
    have e1 := isS_lt p2.1
    have e2 := ask_n p2.2
    generalize nt x1 = s at *
    generalize nt x2 = g at *
    generalize nt x3 = n at *
    rw [e.1, e1.1, e2.1]
    refine m_plansJ hW hI e.2 e1.2 e2.2 (Or.inl rfl) (fun h' a b => ?_)
    rw [if_neg (fun q => absurd q.1 (by decide +kernel))] at a
    exact hQ h' a b
  · rw [if_pos p, if_neg p2] at hQ
    exact m_finds (by omega) hI hQ rfl
  · rw [if_neg p] at hQ
    exact m_finds hF5_lt hI hQ rfl
theorem m_run {x1 x2 x3 : Int32} (hW : WS c σ) (hI : MI σ h) (hQ : ∀ h', MI (o_run σ x1 x2 x3).2 h' → HiF h h' → Q (o_run σ x1 x2 x3).1 h') : f_X8_run x1 x2 x3 h Q := by
  have hT := hW.2.1.2
  unfold f_X8_run
  unfold o_run at hQ
  refine m_plansP hW hI (fun p p2 => br_f n10 ?_) (fun p p2 => ?_) (fun p => ?_)
  · rw [if_pos p, if_pos p2] at hQ
    have e := sh_lt p.1
    have e1 := isS_lt p2.1
    have e2 := ask_n p2.2
    generalize nt x1 = s at *
    generalize nt x2 = g at *
    generalize nt x3 = n at *
    rw [e.1, e1.1, e2.1, hI.1.1.1, nI_add]
    refine br_le (b := 99999) (by omega) (by omega) (fun z => ?_) (fun z => ?_)
    · rw [if_pos z] at hQ
      refine m_plansJ hW hI e.2 e1.2 e2.2 (Or.inr rfl) (fun h' a b => hQ h' ?_ b)
      show MI (if (plS σ s n).1 = 0 then uV σ (plS σ s n).2 else σ) h'
      by_cases q : (plS σ s n).1 = 0
      · rw [if_pos ⟨rfl, q⟩] at a
        rw [if_pos q]; exact a
      · rw [if_neg (fun q2 => q q2.2)] at a
        rw [if_neg q]; exact a
    · rw [if_neg (by omega)] at hQ
      exact m_finds (by omega) hI hQ fnd4
  · rw [if_pos p, if_neg p2] at hQ
    exact m_finds (by omega) hI hQ rfl
  · rw [if_neg p] at hQ
    exact m_finds hF5_lt hI hQ rfl
end Ops
