/-! its, status, line -/
section Ops
variable {c : Nat} {σ : ST} {h : HP} {Q : Int32 → HP → Prop}
theorem t_setting {a : Nat} {f : Nat → Nat} {k : Nat} (hk : k < 8) (hf : gi h a k = nI (f k)) (hQ : Q (nI (f k)) h) : f_X0_setting a (nI k) h Q := by
  unfold f_X0_setting
  rw [← hf] at hQ
  rw [lit 0, lit 1, lit 2, lit 3, lit 4, lit 5, lit 6]
  simp only [nI_eq (show k < 2 ^ 31 by omega) (show 0 < 2 ^ 31 by decide), nI_eq (show k < 2 ^ 31 by omega) (show 1 < 2 ^ 31 by decide), nI_eq (show k < 2 ^ 31 by omega) (show 2 < 2 ^ 31 by decide), nI_eq (show k < 2 ^ 31 by omega) (show 3 < 2 ^ 31 by decide), nI_eq (show k < 2 ^ 31 by omega) (show 4 < 2 ^ 31 by decide), nI_eq (show k < 2 ^ 31 by omega) (show 5 < 2 ^ 31 by decide), nI_eq (show k < 2 ^ 31 by omega) (show 6 < 2 ^ 31 by decide)]
  have hk' : k = 0 ∨ k = 1 ∨ k = 2 ∨ k = 3 ∨ k = 4 ∨ k = 5 ∨ k = 6 ∨ k = 7 := by omega
  rcases hk' with rfl | rfl | rfl | rfl | rfl | rfl | rfl | rfl <;> simp <;> exact hQ
def o_its (σ : ST) (x1 x2 : Int32) : Int32 × ST :=
  if isL σ x1 then (if x2 = 8 then (nI (roomL (sV σ) (nt x1) (vT (sV σ)) 0), σ) else if x2 = 9 then (nI (takesL (sV σ) (nt x1)), σ) else if x2 = 10 then (nI (vl (sV σ) (nt x1) 8), σ) else if x2 = 11 then (nI (wyl (sV σ) (nt x1)), σ) else if InR x2 0 7 then (nI (vl (sV σ) (nt x1) (nt x2)), σ) else (fnd 0, uF σ 0)) else (fnd 0, uF σ 0)
theorem WS_its {x1 x2 : Int32} (hW : WS c σ) (hc : c < 512) : WS (c + 1) (o_its σ x1 x2).2 := by
  have h' := hW.up (Nat.le_succ c) hc
  unfold o_its
  repeat' split
  all_goals first | exact h' | exact WS_F hW hc
theorem c_its {x1 x2 : Int32} (hW : WS c σ) (hI : CI σ h) (hQ : ∀ h', CI (o_its σ x1 x2).2 h' → LoF h h' → Q (o_its σ x1 x2).1 h') : f_X7_its x1 x2 h Q := by
  unfold f_X7_its
  unfold o_its at hQ
  have hs := hW.small
  refine c_hasL hI.1 hs.2.1 (fun p => br1 ?_) (fun p => br0 ?_)
  · rw [if_pos p] at hQ
    obtain ⟨e1, l1⟩ := isL_lt p
    generalize nt x1 = n at *
    subst e1
    rw [ix_nI (by omega), show 3 + 7 + 2 * n = 1 + 9 + 2 * n by omega]
    have g := hI.1.2.2.1 n l1
    refine ⟨vp_in_nI (by omega) (by decide), ?_⟩
    refine ⟨fun q => ?_, fun q => ?_⟩
    · rw [if_pos q] at hQ; rw [hI.1.1.1]; exact c_room hW.2.1.1 hI.1 l1 (by have := hW.2.1.2; omega) (hQ h hI LoF.rf)
    rw [if_neg q] at hQ
    refine ⟨fun q => ?_, fun q => ?_⟩
    · rw [if_pos q] at hQ; exact c_takes hW.2.1.1 hI.1 l1 (hQ h hI LoF.rf)
    rw [if_neg q] at hQ
    refine ⟨fun q => ?_, fun q => ?_⟩
    · rw [if_pos q] at hQ; rw [g 8 (by omega)]; exact hQ h hI LoF.rf
    rw [if_neg q] at hQ
    refine ⟨fun q => ?_, fun q => ?_⟩
    · rw [if_pos q] at hQ; exact c_underWay hI.1 l1 (hQ h hI LoF.rf)
    rw [if_neg q] at hQ
    refine c_in (a := 0) (b := 7) rfl rfl (fun p2 => br1 ?_) (fun p2 => br0 ?_)
    · rw [if_pos p2] at hQ
      have e2 := nt_nI p2.1
      have l2 : nt x2 < 8 := by unfold nt; omega
      rw [e2]
      exact t_setting (f := fun k => vl (sV σ) n k) l2 (g _ (by omega)) (hQ h hI LoF.rf)
    · rw [if_neg p2] at hQ
      exact c_found (by omega) hI hQ fnd0 hs
  · rw [if_neg p] at hQ
    exact c_found (by omega) hI hQ fnd0 hs
theorem m_its {x1 x2 : Int32} (hW : WS c σ) (hI : MI σ h) (hQ : ∀ h', MI (o_its σ x1 x2).2 h' → HiF h h' → Q (o_its σ x1 x2).1 h') : f_X8_its x1 x2 h Q := by
  unfold f_X8_its
  unfold o_its at hQ
  have hs := hW.small
  refine m_isL hI.1 hs.2.1 (fun p => br1 ?_) (fun p => br0 ?_)
  · rw [if_pos p] at hQ
    obtain ⟨e1, l1⟩ := isL_lt p
    generalize nt x1 = n at *
    subst e1
    rw [ix_nI (by omega)]
    have q8 : x2 = 8 ↔ x2.toInt = 8 := i32_eq x2 8
    have q9 : x2 = 9 ↔ x2.toInt = 9 := i32_eq x2 9
    have q10 : x2 = 10 ↔ x2.toInt = 10 := i32_eq x2 10
    have q11 : x2 = 11 ↔ x2.toInt = 11 := i32_eq x2 11
    have ql : 8 ≤ x2 ↔ 8 ≤ x2.toInt := i32_le 8 x2
    refine m_in (a := 0) (b := 11) rfl rfl (fun p2 => br1 ?_) (fun p2 => br0 ?_)
    · refine ⟨fun z => ?_, fun z => ?_⟩
      · rw [ql] at z
        refine ⟨fun q => ?_, fun q => ?_⟩
        · rw [if_pos q] at hQ; rw [hI.1.1.1]; exact m_room hW.2.1.1 hI.1 l1 (by have := hW.2.1.2; omega) (hQ h hI HiF.rf)
        rw [if_neg q] at hQ
        refine ⟨fun q => ?_, fun q => ?_⟩
        · rw [if_pos q] at hQ; exact m_takes hW.2.1.1 hI.1 l1 (hQ h hI HiF.rf)
        rw [if_neg q] at hQ
        refine ⟨fun q => ?_, fun q => ?_⟩
        · rw [if_pos q] at hQ; rw [hI.1.2.2.2.1 n l1]; exact ⟨vp_in_nI (by omega) (by decide), hQ h hI HiF.rf⟩
        rw [if_neg q] at hQ
        rw [if_pos (q11.mpr (by rw [q8] at *; rw [q9] at *; rw [q10] at *; omega))] at hQ
        exact m_onWay hW.2.1.1 hI.1 l1 (hQ h hI HiF.rf)
      · rw [ql] at z
        rw [if_neg (by rw [q8]; omega), if_neg (by rw [q9]; omega), if_neg (by rw [q10]; omega), if_neg (by rw [q11]; omega), if_pos ⟨by omega, by omega⟩] at hQ
        have e2 := nt_nI p2.1
        have l2 : nt x2 < 8 := by unfold nt; omega
        rw [e2]
        exact (m_at hW.2.1.1 hI.1 l1 l2).mpr (hQ h hI HiF.rf)
    · rw [if_neg (by rw [q8]; omega), if_neg (by rw [q9]; omega), if_neg (by rw [q10]; omega), if_neg (by rw [q11]; omega), if_neg (by omega)] at hQ
      exact m_finds (by omega) hI hQ fnd0
  · rw [if_neg p] at hQ
    exact m_finds (by omega) hI hQ fnd0
def o_status (σ : ST) (x : Int32) : Int32 × ST := if InR x (-1) 7 then (if x.toInt < 0 then (nI (sm (sF σ) 8), σ) else (nI (sF σ (nt x)), σ)) else (fnd 0, uF σ 0)
theorem WS_status {x : Int32} (hW : WS c σ) (hc : c < 512) : WS (c + 1) (o_status σ x).2 := by
  have h' := hW.up (Nat.le_succ c) hc
  unfold o_status
  repeat' split
  all_goals first | exact h' | exact WS_F hW hc
theorem c_status {x : Int32} (hW : WS c σ) (hI : CI σ h) (hQ : ∀ h', CI (o_status σ x).2 h' → LoF h h' → Q (o_status σ x).1 h') : f_X7_status x h Q := by
  unfold f_X7_status
  unfold o_status at hQ
  have ql : x < 0 ↔ x.toInt < 0 := i32_lt x 0
  refine c_in (a := -1) (b := 7) rfl rfl (fun p => br1 ?_) (fun p => br0 ?_)
  · rw [if_pos p] at hQ
    refine ⟨fun z => ?_, fun z => ?_⟩
    · rw [if_pos (ql.mp z)] at hQ
      have key := loop_up (L := fun f i => f_X7_status_L32 Q f (nI (sm (sF σ) i)) (nI i) h) 8 0 (by omega) (fun f => ?_) (fun i f _ hi ih => ?_)
      · exact key
      · unfold f_X7_status_L32
        exact ⟨fun _ => hQ h hI LoF.rf, fun c => absurd (nI_le (Nat.le_refl _) (by decide)) c⟩
      · unfold f_X7_status_L32
        refine ⟨fun c => absurd ((nI_leI (a := 8) (by decide) (by omega)).mp c) (by omega), fun _ => ⟨vp_in_nI hi (by decide), ?_⟩⟩
        intro y ey z ez
        rw [ey, ez, nI_1, ix_nI (by omega), hI.2.2.1 i hi, nI_add]
        exact ih
    · have z' : ¬ x.toInt < 0 := fun w => z (ql.mpr w)
      rw [if_neg z'] at hQ
      have e2 := nt_nI (x := x) (by omega)
      have l2 : nt x < 8 := by unfold nt; omega
      rw [e2, ix_nI (by omega), hI.2.2.1 _ l2]
      exact ⟨vp_in_nI l2 (by decide), hQ h hI LoF.rf⟩
  · rw [if_neg p] at hQ
    exact c_found (by omega) hI hQ fnd0 hW.small
theorem m_status {x : Int32} (hI : MI σ h) (hQ : ∀ h', MI (o_status σ x).2 h' → HiF h h' → Q (o_status σ x).1 h') : f_X8_status x h Q := by
  unfold f_X8_status
  unfold o_status at hQ
  have ql : 0 ≤ x ↔ 0 ≤ x.toInt := i32_le 0 x
  refine m_in (a := -1) (b := 7) rfl rfl (fun p => br1 ?_) (fun p => br0 ?_)
  · rw [if_pos p] at hQ
    refine ⟨fun z => ?_, fun z => ?_⟩
    · rw [ql] at z
      rw [if_neg (by omega)] at hQ
      have e2 := nt_nI (x := x) (by omega)
      have l2 : nt x < 8 := by unfold nt; omega
      rw [e2, ix_nI (by omega), hI.2.2.1 _ l2]
      exact ⟨vp_in_nI l2 (by decide), hQ h hI HiF.rf⟩
    · have z' : ¬ 0 ≤ x.toInt := fun w => z (ql.mpr w)
      rw [if_pos (by omega)] at hQ
      exact m_sumOf (n := 8) (f := sF σ) (by decide) (by decide) (fun i hi => hI.2.2.1 i hi) (hQ h hI HiF.rf)
  · rw [if_neg p] at hQ
    exact m_finds (by omega) hI hQ fnd0
end Ops
