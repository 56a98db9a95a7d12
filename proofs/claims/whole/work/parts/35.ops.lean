/-! line, of, its, status -/
theorem wyl_addL {v : WV} {a b c d e : Nat} : wya (addL v a b c d e) = wya v := by
  show sm (fun l => wyl (addL v a b c d e) l) (vL v + 1) = sm (fun l => wyl v l) (vL v)
  rw [sm]
  have h1 : wyl (addL v a b c d e) (vL v) = 0 := by
    unfold wyl
    rw [sm_zero (m := 0) (fun i _ _ => by rw [vy_addL, if_pos rfl]) (by omega)]
    rfl
  rw [h1, Nat.add_zero]
  exact sm_congr (fun i hi => sm_congr (fun k _ => by rw [vy_addL, if_neg (by omega)]))
theorem WF_addL {m B : Nat} {v : WV} (hF : WF m B v) (hL : vL v < 10) {a b c d e : Nat} (ha : a < 6) (hb : b < vS v) (hc : c < vS v) (hbc : b ≠ c) (hd : d ≤ m) (he : 1 ≤ e ∧ e ≤ 9) : WF m B (addL v a b c d e) := by
  obtain ⟨h1, h2, h3, h4, h5, h6⟩ := hF
  refine ⟨⟨h1.1, h1.2.1, by show vL v + 1 ≤ 10; omega⟩, h2, fun l hl => ?_, by rw [wyl_addL]; exact h4, h5, h6⟩
  have hl' : l < vL v + 1 := hl
  simp only [vl_addL]
  by_cases q : l = vL v
  · simp only [if_pos q]
    exact ⟨ha, hb, hc, hbc, hd, he.1, he.2, by simp, by simp, by simp, by simp⟩
  · simp only [if_neg q]
    exact h3 l (by omega)
section Ops
variable {c : Nat} {σ : ST} {h : HP} {Q : Int32 → HP → Prop}
abbrev isS (σ : ST) (x : Int32) : Prop := InR x 0 ((vS (sV σ) : Int) - 1)
abbrev isL (σ : ST) (x : Int32) : Prop := InR x 0 ((vL (sV σ) : Int) - 1)
theorem isS_lt {x : Int32} (hx : isS σ x) : x = nI (nt x) ∧ nt x < vS (sV σ) := ⟨nt_nI hx.1, by unfold nt; omega⟩
theorem isL_lt {x : Int32} (hx : isL σ x) : x = nI (nt x) ∧ nt x < vL (sV σ) := ⟨nt_nI hx.1, by unfold nt; omega⟩
def o_of (σ : ST) (x1 x2 : Int32) : Int32 × ST :=
  if isS σ x1 then (if x2 = 0 then (nI (vs (sV σ) (nt x1) 0), σ) else if x2 = 1 then (nI (vs (sV σ) (nt x1) 1), σ) else if x2 = 2 then (nI (vs (sV σ) (nt x1) 2), σ) else if x2 = 3 then (nI (holdsS (sV σ) (nt x1) (vT (sV σ))), σ) else if x2 = 4 then (nI (sm (fun l => if vl (sV σ) l 2 = nt x1 then wyl (sV σ) l else 0) (vL (sV σ))), σ) else (fnd 0, uF σ 0)) else (fnd 0, uF σ 0)
theorem WS_of {x1 x2 : Int32} (hW : WS c σ) (hc : c < 512) : WS (c + 1) (o_of σ x1 x2).2 := by
  have h' := hW.up (Nat.le_succ c) hc
  unfold o_of
  repeat' split
  all_goals first | exact h' | exact WS_F hW hc
theorem c_of {x1 x2 : Int32} (hW : WS c σ) (hI : CI σ h) (hQ : ∀ h', CI (o_of σ x1 x2).2 h' → LoF h h' → Q (o_of σ x1 x2).1 h') : f_X7_of x1 x2 h Q := by
  unfold f_X7_of
  unfold o_of at hQ
  have hs := hW.small
  refine c_hasS hI.1 hs.1 (fun p => br1 ?_) (fun p => br0 ?_)
  · rw [if_pos p] at hQ
    obtain ⟨e1, l1⟩ := isS_lt p
    generalize nt x1 = n at *
    subst e1
    rw [ix_nI (by omega)]
    have g := hI.1.2.1 n l1
    refine ⟨vp_in_nI (by omega) (by decide), ?_⟩
    refine ⟨fun q => ?_, fun q => ?_⟩
    · rw [if_pos q] at hQ; rw [show 2 + 2 + n = 1 + 3 + n by omega, g 0 (by omega)]; exact hQ h hI LoF.rf
    rw [if_neg q] at hQ
    refine ⟨fun q => ?_, fun q => ?_⟩
    · rw [if_pos q] at hQ; rw [show 2 + 2 + n = 1 + 3 + n by omega, g 1 (by omega)]; exact hQ h hI LoF.rf
    rw [if_neg q] at hQ
    refine ⟨fun q => ?_, fun q => ?_⟩
    · rw [if_pos q] at hQ; rw [show 2 + 2 + n = 1 + 3 + n by omega, g 2 (by omega)]; exact hQ h hI LoF.rf
    rw [if_neg q] at hQ
    refine ⟨fun q => ?_, fun q => ?_⟩
    · rw [if_pos q] at hQ
      rw [show 2 + 2 + n = 1 + 3 + n by omega, hI.1.1.1]
      exact c_holds hW.2.1.1 hI.1 l1 (by have := hW.2.1.2; omega) (hQ h hI LoF.rf)
    rw [if_neg q] at hQ
    refine ⟨fun q => ?_, fun q => ?_⟩
    · rw [if_pos q] at hQ
      exact c_comingTo hW.2.1.1 hI.1 (by omega) (hQ h hI LoF.rf)
    rw [if_neg q] at hQ
    exact c_found (by omega) hI hQ fnd0 hs
  · rw [if_neg p] at hQ
    exact c_found (by omega) hI hQ fnd0 hs
theorem m_of {x1 x2 : Int32} (hW : WS c σ) (hI : MI σ h) (hQ : ∀ h', MI (o_of σ x1 x2).2 h' → HiF h h' → Q (o_of σ x1 x2).1 h') : f_X8_of x1 x2 h Q := by
  unfold f_X8_of
  unfold o_of at hQ
  have hs := hW.small
  refine m_isS hI.1 hs.1 (fun p => br1 ?_) (fun p => br0 ?_)
  · rw [if_pos p] at hQ
    obtain ⟨e1, l1⟩ := isS_lt p
    generalize nt x1 = n at *
    subst e1
    rw [ix_nI (by omega)]
    have g := hI.1.2.1 n l1
    have vp : vp_in (nI n) 6 := vp_in_nI (by omega) (by decide)
    refine ⟨fun q => ?_, fun q => ?_⟩
    · rw [if_pos q] at hQ; rw [g.1]; exact ⟨vp, hQ h hI HiF.rf⟩
    rw [if_neg q] at hQ
    refine ⟨fun q => ?_, fun q => ?_⟩
    · rw [if_pos q] at hQ; rw [g.2.1]; exact ⟨vp, hQ h hI HiF.rf⟩
    rw [if_neg q] at hQ
    refine ⟨fun q => ?_, fun q => ?_⟩
    · rw [if_pos q] at hQ; rw [g.2.2]; exact ⟨vp, hQ h hI HiF.rf⟩
    rw [if_neg q] at hQ
    refine ⟨fun q => ?_, fun q => ?_⟩
    · rw [if_pos q] at hQ
      rw [hI.1.1.1]
      exact m_holds hW.2.1.1 hI.1 l1 (by have := hW.2.1.2; omega) (hQ h hI HiF.rf)
    rw [if_neg q] at hQ
    refine ⟨fun q => ?_, fun q => ?_⟩
    · rw [if_pos q] at hQ
      exact m_comesTo hW.2.1.1 hI.1 (by omega) (hQ h hI HiF.rf)
    rw [if_neg q] at hQ
    exact m_finds (by omega) hI hQ fnd0
  · rw [if_neg p] at hQ
    exact m_finds (by omega) hI hQ fnd0
end Ops
