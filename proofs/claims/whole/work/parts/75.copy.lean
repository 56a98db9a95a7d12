/-! copy, cost -/
def cpR (r r' : Nat → Int64) (f t n : Nat) : Nat → Int64 := fun j => if t ≤ j ∧ j < t + n then r (f + (j - t)) else r' j
theorem w_add {a b : Int32} (ha : 0 ≤ a.toInt) (hb : 0 ≤ b.toInt) : (a.toInt64 + b.toInt64).toInt = a.toInt + b.toInt := by
  have h1 := nt_lt a
  have h2 := nt_lt b
  rw [Int64.toInt_add, w_toInt, w_toInt]
  exact Int.bmod_eq_of_le (by omega) (by omega)
section Ops
variable {c : Nat} {σ : ST} {h : HP} {Q : Int32 → HP → Prop}
theorem c_hasPart {a z : Nat} {x1 x2 : Int32} (hz : gi h a 2 = nI z) (hz2 : z < 1000) (h1 : 0 ≤ x1.toInt → 0 ≤ x2.toInt → x1.toInt + x2.toInt ≤ z → Q 1 h) (h0 : ¬ (0 ≤ x1.toInt ∧ 0 ≤ x2.toInt ∧ x1.toInt + x2.toInt ≤ z) → Q 0 h) : f_X2_hasPart a x1 x2 h Q := by
  unfold f_X2_hasPart
  rw [i32_lt, i32_lt, i32_0]
  refine ⟨fun q => h0 (by omega), fun q1 => ⟨fun q => h0 (by omega), fun q2 => ?_⟩⟩
  simp only [cmp_gt]
  rw [i64_lt, w_toInt, w_add (by omega) (by omega), hz, nI_toInt (by omega)]
  exact ⟨fun q => h0 (by omega), fun q => h1 (by omega) (by omega) (by omega)⟩
abbrev cpP (σ : ST) (s t : Nat) (x2 x4 x5 : Int32) : Prop := (0 ≤ x2.toInt ∧ 0 ≤ x5.toInt ∧ x2.toInt + x5.toInt ≤ sZ σ s) ∧ (0 ≤ x4.toInt ∧ 0 ≤ x5.toInt ∧ x4.toInt + x5.toInt ≤ sZ σ t)
noncomputable def o_copy (σ : ST) (x1 x2 x3 x4 x5 : Int32) : Int32 × ST := by
  classical exact if InR x1 0 3 ∧ InR x3 0 3 then (if sB σ (nt x1) = 0 ∨ sB σ (nt x3) = 0 then (fnd 5, uF σ 5) else if sB σ (nt x1) = sB σ (nt x3) then (if cpP σ (nt x1) (nt x3) x2 x4 x5 then (x5, uS σ (nt x3) (sB σ (nt x3)) (sZ σ (nt x3)) (cpR (sN σ (nt x1)) (sN σ (nt x3)) (nt x2) (nt x4) (nt x5))) else (fnd 0, uF σ 0)) else (fnd 2, uF σ 2)) else (fnd 0, uF σ 0)
theorem WS_copy {x1 x2 x3 x4 x5 : Int32} (hW : WS c σ) (hc : c < 512) : WS (c + 1) (o_copy σ x1 x2 x3 x4 x5).2 := by
  unfold o_copy
  split
  · rename_i p
    have w := hW.2.2.2.2.2 (nt x3) (sh_lt p.2).2
    split
    · exact WS_F hW hc
    · split
      · split
        · exact WS_S hW hc w.1 w.2.1 w.2.2
        · exact WS_F hW hc
      · exact WS_F hW hc
  · exact WS_F hW hc
theorem c_copy {x1 x2 x3 x4 x5 : Int32} (hW : WS c σ) (hI : CI σ h) (hQ : ∀ h', CI (o_copy σ x1 x2 x3 x4 x5).2 h' → LoF h h' → Q (o_copy σ x1 x2 x3 x4 x5).1 h') : f_X7_copy x1 x2 x3 x4 x5 h Q := by
  have hs := hW.small
  unfold f_X7_copy
  unfold o_copy at hQ
  refine c_in (a := 0) (b := 3) rfl rfl (fun p => br1 ?_) (fun p => br0 ?_)
  · refine c_in (a := 0) (b := 3) rfl rfl (fun p3 => br1 ?_) (fun p3 => br0 ?_)
    · rw [if_pos ⟨p, p3⟩] at hQ
      have e1 := sh_lt p
      have e3 := sh_lt p3
      generalize nt x1 = s at *
      generalize nt x3 = t at *
      have b1 := b4 hW e1.2
      have b3 := b4 hW e3.2
      have I1 := hI.2.2.2.2 s e1.2
      have I3 := hI.2.2.2.2 t e3.2
      have z1 := (hW.2.2.2.2.2 s e1.2).2.1
      have z3 := (hW.2.2.2.2.2 t e3.2).2.1
      rw [e1.1, e3.1, ix_nI (by omega), ix_nI (by omega), show 107 + 2 + 2 * s = 109 + 2 * s by omega, show 107 + 2 + 2 * t = 109 + 2 * t by omega, I1.1, I3.1]
      refine ⟨vp_in_nI e1.2 (by decide), vp_in_nI e3.2 (by decide), ?_⟩
      refine br_eq (b := 0) (by omega) (by omega) (fun q => ?_) (fun q => ?_)
      · rw [if_pos (Or.inl q)] at hQ
        exact c_found (by omega) hI hQ fnd5 hs
      · refine br_eq (b := 0) (by omega) (by omega) (fun q2 => ?_) (fun q2 => ?_)
        · rw [if_pos (Or.inr q2)] at hQ
          exact c_found (by omega) hI hQ fnd5 hs
        · rw [if_neg (by omega)] at hQ
          refine br_eq (by omega) (by omega) (fun q3 => ?_) (fun q3 => ?_)
          · rw [if_pos q3] at hQ
            refine c_hasPart I1.2.1 (by omega) (fun a1 a2 a3 => br1 ?_) (fun a => br0 ?_)
            · refine c_hasPart I3.2.1 (by omega) (fun a4 a5 a6 => br1 ?_) (fun a => br0 ?_)
              · rw [if_pos ⟨⟨a1, a2, a3⟩, a4, a5, a6⟩] at hQ
                have f2 := nt_nI a1
                have f4 := nt_nI a4
                have f5 := nt_nI a2
                have l2 : nt x2 + nt x5 ≤ 40 := by unfold nt; omega
                have l4 : nt x4 + nt x5 ≤ 40 := by unfold nt; omega
                have i2 : ix x2 = nt x2 := by have := ix_nI (k := nt x2) (by omega); rw [← f2] at this; exact this
                have i4 : ix x4 = nt x4 := by have := ix_nI (k := nt x4) (by omega); rw [← f4] at this; exact this
                have i5 : ix x5 = nt x5 := by have := ix_nI (k := nt x5) (by omega); rw [← f5] at this; exact this
                rw [i2, i4, i5]
                refine ⟨⟨by rw [i32_lt, i32_0]; omega, by rw [i32_lt, i32_0]; omega, by rw [i32_lt, i32_0]; omega, l2, l4⟩, ?_⟩
                intro h25 e25
                refine hQ h25 (hI.sheet hW e3.2 (fun a k _ => by rw [e25]; rfl) (fun a k q => by rw [e25, gl_cpl, if_neg (fun z => q (by omega))]) (by rw [e25]; exact I3.1) (by rw [e25]; exact I3.2.1) (fun i hi => ?_)) ⟨fun a k _ => by rw [e25]; rfl, fun a k q => by rw [e25, gl_cpl, if_neg (by omega)]⟩
                rw [e25, gl_cpl]
                unfold cpR
                by_cases z : nt x4 ≤ i ∧ i < nt x4 + nt x5
                · rw [if_pos ⟨by omega, z⟩, if_pos z, show 109 + 2 * s + 1 = 110 + 2 * s by omega]
                  exact I1.2.2 _ (by omega)
                · rw [if_neg (fun q => z q.2), if_neg z]; exact I3.2.2 i hi
              · rw [if_neg (fun z => a z.2)] at hQ
                exact c_found (by omega) hI hQ fnd0 hs
            · rw [if_neg (fun z => a z.1)] at hQ
              exact c_found (by omega) hI hQ fnd0 hs
          · rw [if_neg q3] at hQ
            exact c_found (by omega) hI hQ fnd2 hs
    · rw [if_neg (fun q => p3 q.2)] at hQ
      exact c_found (by omega) hI hQ fnd0 hs
  · rw [if_neg (fun q => p q.1)] at hQ
    exact c_found (by omega) hI hQ fnd0 hs
theorem m_copy {x1 x2 x3 x4 x5 : Int32} (hW : WS c σ) (hI : MI σ h) (hQ : ∀ h', MI (o_copy σ x1 x2 x3 x4 x5).2 h' → HiF h h' → Q (o_copy σ x1 x2 x3 x4 x5).1 h') : f_X8_copy x1 x2 x3 x4 x5 h Q := by
  unfold f_X8_copy
  unfold o_copy at hQ
  refine m_isSheet (fun p => br1 ?_) (fun p => br0 ?_)
  · refine m_isSheet (fun p3 => br1 ?_) (fun p3 => br0 ?_)
    · rw [if_pos ⟨p, p3⟩] at hQ
      have e1 := sh_lt p
      have e3 := sh_lt p3
      generalize nt x1 = s at *
      generalize nt x3 = t at *
      have b1 := b4 hW e1.2
      have b3 := b4 hW e3.2
      have I1 := hI.2.2.2.2 s e1.2
      have I3 := hI.2.2.2.2 t e3.2
      have z1 := (hW.2.2.2.2.2 s e1.2).2.1
      have z3 := (hW.2.2.2.2.2 t e3.2).2.1
      have vs1 : vp_in (nI s) 4 := vp_in_nI e1.2 (by decide)
      have vs3 : vp_in (nI t) 4 := vp_in_nI e3.2 (by decide)
      rw [e1.1, e3.1, ix_nI (by omega), ix_nI (by omega), I1.1, I3.1, I1.2.1, I3.2.1]
      refine ⟨vs1, ?_⟩
      refine br_eq (b := 0) (by omega) (by omega) (fun q => ?_) (fun q => ⟨vs3, ?_⟩)
      · rw [if_pos (Or.inl q)] at hQ
        exact m_finds (by omega) hI hQ fnd5
      · refine br_eq (b := 0) (by omega) (by omega) (fun q2 => ?_) (fun q2 => ⟨vs1, vs3, ?_⟩)
        · rw [if_pos (Or.inr q2)] at hQ
          exact m_finds (by omega) hI hQ fnd5
        · rw [if_neg (by omega)] at hQ
          refine br_eq (by omega) (by omega) (fun q3 => ?_) (fun q3 => ?_)
          · rw [if_pos q3] at hQ
            have bad : ¬ cpP σ s t x2 x4 x5 → f_X8_finds (-1000000001 : Int32) h (fun v h1 => Q v h1) := by
              intro q
              rw [if_neg q] at hQ
              exact m_finds (by omega) hI hQ fnd0
            rw [i32_lt, i32_lt, i32_lt, i32_0]
            refine ⟨fun a => bad (by omega), fun a5 => ⟨fun a => bad (by omega), fun a2 => ⟨fun a => bad (by omega), fun a4 => ⟨vs1, ?_⟩⟩⟩⟩
            have f2 := nt_nI (x := x2) (by omega)
            have f4 := nt_nI (x := x4) (by omega)
            have f5 := nt_nI (x := x5) (by omega)
            have t5 : x5.toInt = (nt x5 : Int) := by unfold nt; omega
            have l5 := nt_lt x5
            have sub : ∀ z : Nat, z < 1000 → (nI z - x5).toInt = (z : Int) - x5.toInt := fun z hz => by
              rw [f5, nI_subT (by omega) (by omega), ← f5, t5]
            rw [i32_lt, sub _ (by omega)]
            refine ⟨fun a => bad (by omega), fun a6 => ⟨vs3, ?_⟩⟩
            rw [i32_le, sub _ (by omega)]
            refine ⟨fun a7 => ?_, fun a => bad (by omega)⟩
            have ok : cpP σ s t x2 x4 x5 := ⟨⟨by omega, by omega, by omega⟩, by omega, by omega, by omega⟩
            rw [if_pos ok] at hQ
            have l2 : nt x2 + nt x5 ≤ 40 := by unfold nt; omega
            have l4 : nt x4 + nt x5 ≤ 40 := by unfold nt; omega
            generalize nt x2 = fr at *
            generalize nt x4 = to at *
            generalize nt x5 = n at *
            rw [f2, f4, f5]
            rw [f5] at hQ
            have second : ∀ h1, (∀ k, k < n → gl h1 143 k = sN σ s (fr + k)) → (∀ k, gl h1 142 k = gl h 142 k) → (∀ a k, a < 117 → gl h1 a k = gl h a k) → (∀ a k, gi h1 a k = gi h a k) → (∀ j, gw h1 j = gw h j) → ∃ f, f_X8_copy_L157 (nI t) (nI to) (nI n) Q f 0 h1 := by
              intro h1 k1 k2 k3 k4 k5
              have key := loop_up (L := fun f i => ∀ h1, (∀ k, k < n → gl h1 143 k = sN σ s (fr + k)) → (∀ k, gl h1 142 k = if 40 * t + to ≤ k ∧ k < 40 * t + to + i then sN σ s (fr + (k - (40 * t + to))) else gl h 142 k) → (∀ a k, a < 117 → gl h1 a k = gl h a k) → (∀ a k, gi h1 a k = gi h a k) → (∀ j, gw h1 j = gw h j) → f_X8_copy_L157 (nI t) (nI to) (nI n) Q f (nI i) h1) n 0 (by omega) (fun f h1 k1 k2 k3 k4 k5 => ?_) (fun i f _ hi ih h1 k1 k2 k3 k4 k5 => ?_)
              · obtain ⟨f, hf⟩ := key
                exact ⟨f, hf h1 k1 (fun k => by rw [k2, if_neg (by omega)]) k3 k4 k5⟩
              · unfold f_X8_copy_L157
                refine br_le (by omega) (by omega) (fun _ => ?_) (fun z => by omega)
                refine hQ h1 (hI.sheet (fun a k _ => k4 a k) (fun k q => by rw [k2, if_neg (by omega)]) (by rw [k4]; exact I3.1) (by rw [k4]; exact I3.2.1) (fun i hi => ?_)) ⟨fun a k _ => k4 a k, k3, k5⟩
                rw [k2]
                unfold cpR
                by_cases z : to ≤ i ∧ i < to + n
                · rw [if_pos (by omega), if_pos z, show 40 * t + i - (40 * t + to) = i - to by omega]
                · rw [if_neg (by omega), if_neg z]; exact I3.2.2 i hi
              · unfold f_X8_copy_L157
                rw [lit 40, nI_mul, nI_add, nI_add, ix_nI (by omega), ix_nI (by omega)]
                refine br_le (by omega) (by omega) (fun z => by omega) (fun _ => ⟨vp_in_nI (by omega) (by decide), vp_in_nI (by omega) (by decide), ?_⟩)
                intro h42 e42 y ey
                rw [ey, nI_1 i]
                refine ih h42 (fun k hk => by rw [e42, gl_sl, if_neg (by omega)]; exact k1 k hk) (fun k => ?_) (fun a k ha => by rw [e42, gl_sl, if_neg (by omega)]; exact k3 a k ha) (fun a k => by rw [e42]; exact k4 a k) (fun j => by rw [e42]; exact k5 j)
                rw [e42, gl_sl]
                by_cases z : k = 40 * t + to + i
                · rw [if_pos ⟨rfl, z⟩, if_pos (by omega), k1 i hi, z, show 40 * t + to + i - (40 * t + to) = i by omega]
                · rw [if_neg (fun q => z q.2), k2]
                  by_cases z2 : 40 * t + to ≤ k ∧ k < 40 * t + to + i
                  · rw [if_pos z2, if_pos (by omega)]
                  · rw [if_neg z2, if_neg (by omega)]
            have key := loop_up (L := fun f i => ∀ h1, (∀ k, k < i → gl h1 143 k = sN σ s (fr + k)) → (∀ k, gl h1 142 k = gl h 142 k) → (∀ a k, a < 117 → gl h1 a k = gl h a k) → (∀ a k, gi h1 a k = gi h a k) → (∀ j, gw h1 j = gw h j) → f_X8_copy_L120 (nI s) (nI fr) (nI t) (nI to) (nI n) (fun h38 => ∃ n44, f_X8_copy_L157 (nI t) (nI to) (nI n) Q n44 0 h38) Q f (nI i) h1) n 0 (by omega) (fun f h1 k1 k2 k3 k4 k5 => ?_) (fun i f _ hi ih h1 k1 k2 k3 k4 k5 => ?_)
            · obtain ⟨f, hf⟩ := key
              exact ⟨f, hf h (fun k hk => by omega) (fun _ => rfl) (fun _ _ _ => rfl) (fun _ _ => rfl) (fun _ => rfl)⟩
            · unfold f_X8_copy_L120
              exact br_le (by omega) (by omega) (fun _ => second h1 k1 k2 k3 k4 k5) (fun z => by omega)
            · unfold f_X8_copy_L120
              rw [lit 40, nI_mul, nI_add, nI_add, ix_nI (by omega), ix_nI (by omega)]
              refine br_le (by omega) (by omega) (fun z => by omega) (fun _ => ⟨vp_in_nI (by omega) (by decide), vp_in_nI (by omega) (by decide), ?_⟩)
              intro h36 e36 y ey
              rw [ey, nI_1 i]
              refine ih h36 (fun k hk => ?_) (fun k => by rw [e36, gl_sl, if_neg (by omega)]; exact k2 k) (fun a k ha => by rw [e36, gl_sl, if_neg (by omega)]; exact k3 a k ha) (fun a k => by rw [e36]; exact k4 a k) (fun j => by rw [e36]; exact k5 j)
              rw [e36, gl_sl]
              by_cases z : k = i
              · rw [if_pos ⟨rfl, z⟩, k2, z, Nat.add_assoc]; exact I1.2.2 _ (by omega)
              · rw [if_neg (fun q => z q.2)]; exact k1 k (by omega)
          · rw [if_neg q3] at hQ
            exact m_finds (by omega) hI hQ fnd2
    · rw [if_neg (fun q => p3 q.2)] at hQ
      exact m_finds (by omega) hI hQ fnd0
  · rw [if_neg (fun q => p q.1)] at hQ
    exact m_finds (by omega) hI hQ fnd0
end Ops
