/-! line -/
section Ops
variable {c : Nat} {σ : ST} {h : HP} {Q : Int32 → HP → Prop}
theorem c_areTwo {w : Nat} {v : WV} {x y : Int32} (hC : HC w v h) (hS : vS v ≤ 6) (h1 : InR x 0 ((vS v : Int) - 1) ∧ InR y 0 ((vS v : Int) - 1) ∧ x ≠ y → Q 1 h) (h0 : ¬ (InR x 0 ((vS v : Int) - 1) ∧ InR y 0 ((vS v : Int) - 1) ∧ x ≠ y) → Q 0 h) : f_X6_areTwo w x y h Q := by
  unfold f_X6_areTwo
  refine c_hasS hC hS (fun p => br1 ?_) (fun p => br0 (h0 (fun z => p z.1)))
  refine c_hasS hC hS (fun p2 => br1 ?_) (fun p2 => br0 (h0 (fun z => p2 z.2.1)))
  exact ⟨fun e => h0 (fun z => z.2.2 e), fun e => h1 ⟨p, p2, e⟩⟩
theorem m_areTwo {v : WV} {x y : Int32} (hM : HM v h) (hS : vS v ≤ 6) (h1 : InR x 0 ((vS v : Int) - 1) ∧ InR y 0 ((vS v : Int) - 1) ∧ x ≠ y → Q 1 h) (h0 : ¬ (InR x 0 ((vS v : Int) - 1) ∧ InR y 0 ((vS v : Int) - 1) ∧ x ≠ y) → Q 0 h) : f_X8_areTwo x y h Q := by
  unfold f_X8_areTwo
  refine m_isS hM hS (fun p => br1 ?_) (fun p => br0 (h0 (fun z => p z.1)))
  refine m_isS hM hS (fun p2 => br1 ?_) (fun p2 => br0 (h0 (fun z => p2 z.2.1)))
  exact ⟨fun e => h0 (fun z => z.2.2 e), fun e => h1 ⟨p, p2, e⟩⟩
def o_line (σ : ST) (x1 x2 x3 x4 x5 : Int32) : Int32 × ST :=
  if InR x1 0 5 ∧ (isS σ x2 ∧ isS σ x3 ∧ x2 ≠ x3) ∧ InR x4 0 99 ∧ InR x5 1 9 then (if vL (sV σ) < 10 then (nI (vL (sV σ)), uV σ (addL (sV σ) (nt x1) (nt x2) (nt x3) (nt x4) (nt x5))) else (fnd 1, uF σ 1)) else (fnd 0, uF σ 0)
theorem WS_line {x1 x2 x3 x4 x5 : Int32} (hW : WS c σ) (hc : c < 512) : WS (c + 1) (o_line σ x1 x2 x3 x4 x5).2 := by
  unfold o_line
  split
  · rename_i p
    obtain ⟨p1, ⟨p2, p3, p23⟩, p4, p5⟩ := p
    split
    · rename_i q
      have e2 := isS_lt p2
      have e3 := isS_lt p3
      refine WS_V hW hc (WF_up (WF_addL hW.2.1.1 q (by unfold nt; omega) e2.2 e3.2 (fun z => p23 (by rw [e2.1, e3.1, z])) (by unfold nt; omega) ⟨by unfold nt; omega, by unfold nt; omega⟩) (by omega) (by omega)) hW.2.1.2
    · exact WS_F hW hc
  · exact WS_F hW hc
theorem kn_way {w l : Nat} (hw : w = 1 ∨ w = 30 ∨ w = 59) (hl : l < 10) : kn (w + 10 + 2 * l) = 16 := by
  have : ∀ l, l < 10 → kn (1 + 10 + 2 * l) = 16 ∧ kn (30 + 10 + 2 * l) = 16 ∧ kn (59 + 10 + 2 * l) = 16 := by decide +kernel
  rcases hw with rfl | rfl | rfl
  · exact (this l hl).1
  · exact (this l hl).2.1
  · exact (this l hl).2.2
theorem c_line {x1 x2 x3 x4 x5 : Int32} (hW : WS c σ) (hI : CI σ h) (hQ : ∀ h', CI (o_line σ x1 x2 x3 x4 x5).2 h' → LoF h h' → Q (o_line σ x1 x2 x3 x4 x5).1 h') : f_X7_line x1 x2 x3 x4 x5 h Q := by
  unfold f_X7_line
  unfold o_line at hQ
  have hs := hW.small
  refine c_in (a := 0) (b := 5) rfl rfl (fun p1 => br1 ?_) (fun p1 => br0 ?_)
  · refine c_areTwo hI.1 hs.1 (fun p2 => br1 ?_) (fun p2 => br0 ?_)
    · refine c_in (a := 0) (b := 99) rfl rfl (fun p4 => br1 ?_) (fun p4 => br0 ?_)
      · refine c_in (a := 1) (b := 9) rfl rfl (fun p5 => br1 ?_) (fun p5 => br0 ?_)
        · rw [if_pos ⟨p1, p2, p4, p5⟩] at hQ
          rw [hI.1.1.2.2.2, lit 10]
          by_cases q : vL (sV σ) < 10
          · rw [if_pos q] at hQ
            refine ⟨fun _ => ?_, fun z => absurd (nI_ltI (by omega) (by omega) |>.mpr q) z⟩
            have e1 := nt_nI p1.1
            have e2 := (isS_lt p2.1).1
            have e3 := (isS_lt p2.2.1).1
            have e4 := nt_nI p4.1
            have e5 := nt_nI (x := x5) (by omega)
            generalize nt x1 = n1 at *
            generalize nt x2 = n2 at *
            generalize nt x3 = n3 at *
            generalize nt x4 = n4 at *
            generalize nt x5 = n5 at *
            rw [e1, e2, e3, e4, e5]
            refine c_addLine hI.1 hs.1 q (fun l hl => kn_way (Or.inl rfl) hl) (fun x y h' hC f => ?_)
            rw [ix_nI (by omega), show 3 + 7 + 2 * vL (sV σ) = 1 + 9 + 2 * vL (sV σ) by omega]
            refine ⟨vp_in_nI q (by decide), fun h23 e23 => ⟨vp_in_nI q (by decide), fun h25 e25 => ?_⟩⟩
            have c1 := hc_setL hC hs.1 (by show vL (sV σ) + 1 ≤ 10; omega) (l := vL (sV σ)) (k := 3) (x := n4) (by show vL (sV σ) < vL (sV σ) + 1; omega) (by omega)
            rw [← e23] at c1
            have c2 := hc_setL c1 hs.1 (by show vL (sV σ) + 1 ≤ 10; omega) (l := vL (sV σ)) (k := 4) (x := n5) (by show vL (sV σ) < vL (sV σ) + 1; omega) (by omega)
            rw [← e25, addL_set] at c2
            have f0 : FrI (cellsC 1) h' h23 := by rw [e23]; exact FrI.si ⟨by omega, by omega⟩
            have f1 : FrI (cellsC 1) h23 h25 := by rw [e25]; exact FrI.si ⟨by omega, by omega⟩
            have f2 : FrI (cellsC 1) h h25 := (f.trans f0).trans f1
            exact hQ h25 (hI.world hW c2 f2) (f2.lo (by intro a k; simp only [cellsC]; omega))
          · rw [if_neg q] at hQ
            refine ⟨fun z => absurd (nI_ltI (by omega) (by omega) |>.mp z) q, fun _ => ?_⟩
            exact c_found (by omega) hI hQ fnd1 hs
        · rw [if_neg (fun z => p5 z.2.2.2)] at hQ
          exact c_found (by omega) hI hQ fnd0 hs
      · rw [if_neg (fun z => p4 z.2.2.1)] at hQ
        exact c_found (by omega) hI hQ fnd0 hs
    · rw [if_neg (fun z => p2 z.2.1)] at hQ
      exact c_found (by omega) hI hQ fnd0 hs
  · rw [if_neg (fun z => p1 z.1)] at hQ
    exact c_found (by omega) hI hQ fnd0 hs
theorem m_line {x1 x2 x3 x4 x5 : Int32} (hW : WS c σ) (hI : MI σ h) (hQ : ∀ h', MI (o_line σ x1 x2 x3 x4 x5).2 h' → HiF h h' → Q (o_line σ x1 x2 x3 x4 x5).1 h') : f_X8_line x1 x2 x3 x4 x5 h Q := by
  unfold f_X8_line
  unfold o_line at hQ
  have hs := hW.small
  refine m_in (a := 0) (b := 5) rfl rfl (fun p1 => br1 ?_) (fun p1 => br0 ?_)
  · refine m_isS hI.1 hs.1 (fun p2 => br1 ?_) (fun p2 => br0 ?_)
    · refine m_isS hI.1 hs.1 (fun p3 => br1 ?_) (fun p3 => br0 ?_)
      · refine ⟨fun e => ?_, fun ne => ?_⟩
        · rw [if_neg (fun z => z.2.1.2.2 e)] at hQ
          exact m_finds (by omega) hI hQ fnd0
        · refine m_in (a := 0) (b := 99) rfl rfl (fun p4 => br1 ?_) (fun p4 => br0 ?_)
          · refine m_in (a := 1) (b := 9) rfl rfl (fun p5 => br1 ?_) (fun p5 => br0 ?_)
            · rw [if_pos ⟨p1, ⟨p2, p3, ne⟩, p4, p5⟩] at hQ
              rw [hI.1.1.2.2.2, lit 10]
              by_cases q : vL (sV σ) < 10
              · rw [if_pos q] at hQ
                refine ⟨fun z => absurd ((nI_eq (by omega) (by omega)).mp z) (by omega), fun _ => ?_⟩
                have e1 := nt_nI p1.1
                have e2 := (isS_lt p2).1
                have e3 := (isS_lt p3).1
                have e4 := nt_nI p4.1
                have e5 := nt_nI (x := x5) (by omega)
                generalize nt x1 = n1 at *
                generalize nt x2 = n2 at *
                generalize nt x3 = n3 at *
                generalize nt x4 = n4 at *
                generalize nt x5 = n5 at *
                rw [e1, e2, e3, e4, e5]
                refine m_addLine hI.1 q (fun h' hM f => ?_)
                have g : gi h' 117 7 = nI (vL (sV σ) + 1) := hM.1.2.2.2
                rw [g, lit 1, nI_sub (by omega), Nat.add_sub_cancel, lit 8, nI_mul, lit 3, nI_add, ix_nI (by omega)]
                refine ⟨vp_in_nI (by omega) (by decide), fun h30 e30 => ?_⟩
                have g30 : gi h30 117 7 = nI (vL (sV σ) + 1) := by rw [e30, gi_si, if_neg (by omega)]; exact g
                rw [g30, nI_sub (by omega), Nat.add_sub_cancel, nI_mul, lit 4, nI_add, ix_nI (by omega)]
                refine ⟨vp_in_nI (by omega) (by decide), fun h32 e32 => ?_⟩
                have g32 : gi h32 117 7 = nI (vL (sV σ) + 1) := by rw [e32, gi_si, if_neg (by omega)]; exact g30
                rw [g32, nI_sub (by omega), Nat.add_sub_cancel]
                have c1 := hm_setL hM (l := vL (sV σ)) (k := 3) (x := n4) (by omega)
                rw [← e30] at c1
                have c2 := hm_setL c1 (l := vL (sV σ)) (k := 4) (x := n5) (by omega)
                rw [← e32, addL_set] at c2
                have f0 : FrI cellsM h' h30 := by rw [e30]; exact FrI.si (by simp [cellsM])
                have f1 : FrI cellsM h30 h32 := by rw [e32]; exact FrI.si (by simp [cellsM])
                have f2 : FrI cellsM h h32 := (f.trans f0).trans f1
                exact hQ h32 (hI.world c2 f2) (f2.hi (by intro a k; simp only [cellsM]; omega))
              · rw [if_neg q] at hQ
                refine ⟨fun _ => ?_, fun z => absurd ((nI_eq (by omega) (by omega)).mpr (by omega)) z⟩
                exact m_finds (by omega) hI hQ fnd1
            · rw [if_neg (fun z => p5 z.2.2.2)] at hQ
              exact m_finds (by omega) hI hQ fnd0
          · rw [if_neg (fun z => p4 z.2.2.1)] at hQ
            exact m_finds (by omega) hI hQ fnd0
      · rw [if_neg (fun z => p3 z.2.1.2.1)] at hQ
        exact m_finds (by omega) hI hQ fnd0
    · rw [if_neg (fun z => p2 z.2.1.1)] at hQ
      exact m_finds (by omega) hI hQ fnd0
  · rw [if_neg (fun z => p1 z.1)] at hQ
    exact m_finds (by omega) hI hQ fnd0
end Ops
