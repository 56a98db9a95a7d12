/-! the reference lays out -/
theorem nI_ge0 {n : Nat} (h : n < 2 ^ 31) : (0 : Int32) ≤ nI n := nI_le (a := 0) (by omega) h
def rmR (v : WV) (cl wi hl : Int32) (ht l i : Nat) : Nat :=
  (fun r1 => if i = 0 then r1 - vl v l 8 else r1) ((fun r0 => if nI l = hl ∧ ht < r0 then ht else r0) (if nI l = cl then 0 else roomL v l (vT v + i) (if nI l = wi then 1 else 0)))
def cmP (v : WV) (s i k : Nat) : Nat := if i = 0 then vs v s 1 else if i < 16 then sm (fun l => if vl v l 2 = s then vy v l ((vT v + i) % 16) else 0) k else 0
abbrev cellsL : Nat → Nat → Prop := fun a _ => 125 ≤ a ∧ a ≤ 131
theorem rmR_le {v : WV} {m B : Nat} (hF : WF m B v) {cl wi hl : Int32} {ht l i : Nat} (hl' : l < vL v) : rmR v cl wi hl ht l i ≤ 303 := by
  obtain ⟨a0, a1, a2, a3, a4, a5, a6, a7, a8, a9, a10⟩ := hF.2.2.1 l hl'
  have hm := hF.2.2.2.2.1
  have hr : ∀ mo, mo ≤ 1 → roomL v l (vT v + i) mo ≤ 303 := fun mo h => by
    have : roomL v l (vT v + i) mo ≤ 3 * (m + mo) := roomV_le a4 a8
    omega
  have h0 : (if nI l = cl then 0 else roomL v l (vT v + i) (if nI l = wi then 1 else 0)) ≤ 303 := by
    split
    · omega
    · exact hr _ (by split <;> omega)
  unfold rmR
  generalize (if nI l = cl then 0 else roomL v l (vT v + i) (if nI l = wi then 1 else 0)) = r0 at *
  show (if i = 0 then (if nI l = hl ∧ ht < r0 then ht else r0) - vl v l 8 else (if nI l = hl ∧ ht < r0 then ht else r0)) ≤ 303
  split <;> split <;> omega
section Lo
variable {v : WV} {m B : Nat} {h : HP} {cl wi hl : Int32} {ht : Nat} {Q : HP → Prop}
theorem HM.fl {h1 : HP} (hM : HM v h) (hf : FrI cellsL h h1) : HM v h1 := hM.frame hf (by intro a k; simp only [cellsM, cellsL]; omega)
theorem m_J69 {k28 : Int32 → HP → Prop} {l i r0 : Nat} (hF : WF m B v) (hM : HM v h) (hl' : l < vL v) (hi : i < 25) (hr : r0 ≤ 100000) (hht : ht < 2 ^ 31) (hQ : ∀ h', h' = si (si h 125 (25 * l + i) (nI ((fun r1 => if i = 0 then r1 - vl v l 8 else r1) (if nI l = hl ∧ ht < r0 then ht else r0)))) 130 (25 * l + i) (nI 0) → k28 (nI (i + 1)) h') : f_X8_layOut_J69 cl wi hl (nI ht) (nI l) (nI i) (nI r0) k28 Q h := by
  have h6 := hF.1
  have hs := (hF.2.2.1 l hl').2.2.2.2.2.2.2.2.2.2
  have key : ∀ r1, r1 ≤ 100000 → r1 = (if nI l = hl ∧ ht < r0 then ht else r0) → f_X8_layOut_J91 cl wi hl (nI ht) (nI l) (nI i) (nI r1) (fun z0 h9 => k28 z0 h9) Q h := by
    intro r1 b1 e1
    rw [← e1] at hQ
    unfold f_X8_layOut_J91
    refine ⟨fun _ => vp_in_nI (by omega) (by decide), ?_⟩
    intro x7 e7
    have e7' : (if 0 ≤ x7 then (x7 : Int32) else 0) = nI (if i = 0 then r1 - vl v l 8 else r1) := by
      rw [e7, ix_nI (by omega), hM.2.2.2.1 l hl']
      by_cases z : i = 0
      · rw [if_pos (show nI i = 0 by rw [z]; rfl), if_pos z]
        by_cases z2 : vl v l 8 ≤ r1
        · rw [nI_sub z2, if_pos (nI_ge0 (by omega))]
        · rw [if_neg (by rw [i32_le, nI_subT (by omega) (by omega), i32_0]; omega), show r1 - vl v l 8 = 0 by omega]; rfl
      · rw [if_neg (nI_ne0 (by omega) (by omega)), if_neg z, if_pos (nI_ge0 (by omega))]
    rw [e7', lit 25, nI_mul, nI_add, ix_nI (by omega)]
    refine ⟨vp_in_nI (by omega) (by decide), ?_⟩
    intro h20 e20
    refine ⟨vp_in_nI (by omega) (by decide), ?_⟩
    intro h22 e22 x6 e6
    rw [e6, nI_1]
    exact hQ h22 (by rw [e22, e20]; rfl)
  unfold f_X8_layOut_J69
  refine ⟨fun z => br_le (by omega) hht (fun z2 => key r0 hr ?_) (fun z2 => key ht (by omega) ?_), fun z => key r0 hr ?_⟩
  · rw [if_neg (fun q => by omega)]
  · rw [if_pos ⟨z, z2⟩]
  · rw [if_neg (fun q => z q.1)]
theorem m_layOut (hF : WF m B v) (hM : HM v h) (hht : ht < 2 ^ 31) (hQ : ∀ h', RS v (rmR v cl wi hl ht) (fun _ => 0) h' → FrI cellsL h h' → Q h') : f_X8_layOut cl wi hl (nI ht) h Q := by
  have h6 := hF.1
  unfold f_X8_layOut
  -- what the first loop has laid
  have ext : ∀ {P1 P2 : Prop}, P1 → P2 → P1 ∧ P2 := fun a b => ⟨a, b⟩
  have third : ∀ h1, FrI cellsL h h1 → (∀ l, l < vL v → gi h1 131 l = nI (takesL v l) ∧ ∀ i, i < 25 → gi h1 125 (25 * l + i) = nI (rmR v cl wi hl ht l i) ∧ gi h1 130 (25 * l + i) = nI 0) → (∀ s, s < vS v → ∀ i, i < 25 → gi h1 126 (25 * s + i) = nI (holdsS v s (vT v + i)) ∧ gi h1 127 (25 * s + i) = nI (cmP v s i 0) ∧ gi h1 128 (25 * s + i) = nI 0 ∧ gi h1 129 (25 * s + i) = nI 0) → ∃ c, f_X8_layOut_L285 Q c 0 h1 := by
    intro h1 k1 k2 k3
    have key := loop_up (L := fun c l => ∀ h1, FrI cellsL h h1 → (∀ l, l < vL v → gi h1 131 l = nI (takesL v l) ∧ ∀ i, i < 25 → gi h1 125 (25 * l + i) = nI (rmR v cl wi hl ht l i) ∧ gi h1 130 (25 * l + i) = nI 0) → (∀ s, s < vS v → ∀ i, i < 25 → gi h1 126 (25 * s + i) = nI (holdsS v s (vT v + i)) ∧ gi h1 127 (25 * s + i) = nI (cmP v s i l) ∧ gi h1 128 (25 * s + i) = nI 0 ∧ gi h1 129 (25 * s + i) = nI 0) → f_X8_layOut_L285 Q c (nI l) h1) (vL v) 0 (by omega) (fun c h1 k1 k2 k3 => ?_) (fun l c _ hl' ih h1 k1 k2 k3 => ?_)
    · obtain ⟨c, hc⟩ := key
      exact ⟨c, hc h1 k1 k2 k3⟩
    · unfold f_X8_layOut_L285
      rw [(hM.fl k1).1.2.2.2]
      refine br_le (by omega) (by omega) (fun _ => hQ h1 ⟨fun l hl => (k2 l hl).1, fun l hl i hi => (k2 l hl).2 i hi, fun s hs i hi => k3 s hs i hi⟩ k1) (fun z => by omega)
    · unfold f_X8_layOut_L285
      rw [(hM.fl k1).1.2.2.2]
      refine br_le (by omega) (by omega) (fun z => by omega) (fun _ => ?_)
      have hll := hF.2.2.1 l hl'
      have key2 := loop_up (L := fun c2 i => ∀ h1, FrI cellsL h h1 → (∀ l, l < vL v → gi h1 131 l = nI (takesL v l) ∧ ∀ i, i < 25 → gi h1 125 (25 * l + i) = nI (rmR v cl wi hl ht l i) ∧ gi h1 130 (25 * l + i) = nI 0) → (∀ s, s < vS v → ∀ i', i' < 25 → gi h1 126 (25 * s + i') = nI (holdsS v s (vT v + i')) ∧ gi h1 127 (25 * s + i') = nI (if i' < i then cmP v s i' (l + 1) else cmP v s i' l) ∧ gi h1 128 (25 * s + i') = nI 0 ∧ gi h1 129 (25 * s + i') = nI 0) → f_X8_layOut_L297 (nI l) (fun h58 => ∀ x5_59 : Int32, x5_59 = (nI l + 1) → f_X8_layOut_L285 Q c x5_59 h58) Q c2 (nI i) h1) 16 1 (by omega) (fun c2 h1 k1 k2 k3 => ?_) (fun i c2 hi0 hi ih2 h1 k1 k2 k3 => ?_)
      · obtain ⟨c2, hc2⟩ := key2
        refine ⟨c2, hc2 h1 k1 k2 (fun s hs i' hi' => ?_)⟩
        have z0 := k3 s hs i' hi'
        refine ⟨z0.1, ?_, z0.2.2⟩
        by_cases e : i' < 1
        · have : i' = 0 := by omega
          subst this
          rw [if_pos e]; exact z0.2.1
        · rw [if_neg e]; exact z0.2.1
      · unfold f_X8_layOut_L297
        refine br_le (a := 16) (by omega) (by omega) (fun _ => ?_) (fun z => by omega)
        intro x ex
        rw [ex, nI_1]
        refine ih h1 k1 k2 (fun s hs i' hi' => ?_)
        have z0 := k3 s hs i' hi'
        refine ⟨z0.1, ?_, z0.2.2⟩
        by_cases e : i' < 16
        · rw [if_pos e] at z0; exact z0.2.1
        · rw [if_neg e] at z0
          rw [z0.2.1]
          unfold cmP
          rw [if_neg (by omega), if_neg e, if_neg (by omega), if_neg e]
      · unfold f_X8_layOut_L297
        refine br_le (a := 16) (by omega) (by omega) (fun z => by omega) (fun _ => ?_)
        have hM1 := hM.fl k1
        rw [lit 2, m_at hF hM1 hl' (by omega), lit 25, nI_mul, nI_add, hM1.1.1, nI_add, lit 16, nI_rem (by omega) (by omega) (by omega), nI_mul, nI_add, ix_nI (by omega), ix_nI (by omega), hM1.2.2.2.2.1 l hl' _ (by omega)]
        refine ⟨vp_in_nI (by omega) (by decide), vp_in_nI (by omega) (by decide), vp_in_nI (by omega) (by decide), ?_⟩
        have z1 := (k3 (vl v l 2) (by omega) i (by omega)).2.1
        rw [if_neg (by omega)] at z1
        rw [z1, nI_add]
        intro h56 e56 x ex
        rw [ex, nI_1 i]
        refine ih2 h56 (k1.trans (by rw [e56]; exact FrI.si (by omega))) (fun l2 hl2 => ⟨?_, fun i2 hi2 => ⟨?_, ?_⟩⟩) (fun s hs i' hi' => ⟨?_, ?_, ?_, ?_⟩)
        · rw [e56, gi_si, if_neg (by omega)]; exact (k2 l2 hl2).1
        · rw [e56, gi_si, if_neg (by omega)]; exact ((k2 l2 hl2).2 i2 hi2).1
        · rw [e56, gi_si, if_neg (by omega)]; exact ((k2 l2 hl2).2 i2 hi2).2
        · rw [e56, gi_si, if_neg (by omega)]; exact (k3 s hs i' hi').1
        · rw [e56, gi_si]
          by_cases e : 25 * s + i' = 25 * vl v l 2 + i
          · have e1 : s = vl v l 2 := by omega
            have e2 : i' = i := by omega
            rw [if_pos ⟨rfl, e⟩, e2, if_pos (by omega), e1]
            congr 1
            unfold cmP
            rw [if_neg (by omega), if_pos hi, if_neg (by omega), if_pos hi, sm, if_pos rfl]
          · rw [if_neg (fun z => e z.2), (k3 s hs i' hi').2.1]
            congr 1
            by_cases e1 : i' < i
            · rw [if_pos e1, if_pos (by omega)]
            · rw [if_neg e1]
              by_cases e2 : i' = i
              · rw [if_pos (by omega), e2]
                unfold cmP
                rw [if_neg (by omega), if_pos hi, if_neg (by omega), if_pos hi, sm, if_neg (fun z => e (by omega))]
                rfl
              · rw [if_neg (by omega)]
        · rw [e56, gi_si, if_neg (by omega)]; exact (k3 s hs i' hi').2.2.1
        · rw [e56, gi_si, if_neg (by omega)]; exact (k3 s hs i' hi').2.2.2
  have second : ∀ h1, FrI cellsL h h1 → (∀ l, l < vL v → gi h1 131 l = nI (takesL v l) ∧ ∀ i, i < 25 → gi h1 125 (25 * l + i) = nI (rmR v cl wi hl ht l i) ∧ gi h1 130 (25 * l + i) = nI 0) → ∃ c, f_X8_layOut_L168 (fun h48 => ∃ n61, f_X8_layOut_L285 Q n61 0 h48) Q c 0 h1 := by
    intro h1 k1 k2
    have key := loop_up (L := fun c s => ∀ h1, FrI cellsL h h1 → (∀ l, l < vL v → gi h1 131 l = nI (takesL v l) ∧ ∀ i, i < 25 → gi h1 125 (25 * l + i) = nI (rmR v cl wi hl ht l i) ∧ gi h1 130 (25 * l + i) = nI 0) → (∀ s', s' < s → ∀ i, i < 25 → gi h1 126 (25 * s' + i) = nI (holdsS v s' (vT v + i)) ∧ gi h1 127 (25 * s' + i) = nI (cmP v s' i 0) ∧ gi h1 128 (25 * s' + i) = nI 0 ∧ gi h1 129 (25 * s' + i) = nI 0) → f_X8_layOut_L168 (fun h48 => ∃ n61, f_X8_layOut_L285 Q n61 0 h48) Q c (nI s) h1) (vS v) 0 (by omega) (fun c h1 k1 k2 k3 => ?_) (fun s c _ hs ih h1 k1 k2 k3 => ?_)
    · obtain ⟨c, hc⟩ := key
      exact ⟨c, hc h1 k1 k2 (fun s hs => by omega)⟩
    · unfold f_X8_layOut_L168
      rw [(hM.fl k1).1.2.2.1]
      exact br_le (by omega) (by omega) (fun _ => third h1 k1 k2 k3) (fun z => by omega)
    · unfold f_X8_layOut_L168
      rw [(hM.fl k1).1.2.2.1]
      refine br_le (by omega) (by omega) (fun z => by omega) (fun _ => ?_)
      have key2 := loop_up (L := fun c2 i => ∀ h1, FrI cellsL h h1 → (∀ l, l < vL v → gi h1 131 l = nI (takesL v l) ∧ ∀ i, i < 25 → gi h1 125 (25 * l + i) = nI (rmR v cl wi hl ht l i) ∧ gi h1 130 (25 * l + i) = nI 0) → (∀ s' i', 25 * s' + i' < 25 * s + i → i' < 25 → gi h1 126 (25 * s' + i') = nI (holdsS v s' (vT v + i')) ∧ gi h1 127 (25 * s' + i') = nI (cmP v s' i' 0) ∧ gi h1 128 (25 * s' + i') = nI 0 ∧ gi h1 129 (25 * s' + i') = nI 0) → f_X8_layOut_L180 (nI s) (fun h45 => ∀ x5_46 : Int32, x5_46 = (nI s + 1) → f_X8_layOut_L168 (fun h48 => ∃ n61, f_X8_layOut_L285 Q n61 0 h48) Q c x5_46 h45) Q c2 (nI i) h1) 25 0 (by omega) (fun c2 h1 k1 k2 k3 => ?_) (fun i c2 _ hi ih2 h1 k1 k2 k3 => ?_)
      · obtain ⟨c2, hc2⟩ := key2
        exact ⟨c2, hc2 h1 k1 k2 (fun s' i' q1 q2 => k3 s' (by omega) i' q2)⟩
      · unfold f_X8_layOut_L180
        refine br_le (a := 25) (by omega) (by omega) (fun _ => ?_) (fun z => by omega)
        intro x ex
        rw [ex, nI_1]
        exact ih h1 k1 k2 (fun s' hs' i' hi' => k3 s' i' (by omega) hi')
      · unfold f_X8_layOut_L180
        refine br_le (a := 25) (by omega) (by omega) (fun z => by omega) (fun _ => ?_)
        have hM1 := hM.fl k1
        rw [hM1.1.1, nI_add]
        refine m_holds hF hM1 hs (by omega) ?_
        rw [lit 25, nI_mul, nI_add, ix_nI (by omega), ix_nI (by omega)]
        have vp : vp_in (nI (25 * s + i)) 150 := vp_in_nI (by omega) (by decide)
        refine ⟨vp, ?_⟩
        intro h34 e34
        refine ⟨fun _ => vp_in_nI (by omega) (by decide), vp, ?_⟩
        have g34 : gi h34 120 s = nI (vs v s 1) := by rw [e34, gi_si, if_neg (by omega)]; exact (hM1.2.1 s hs).2.1
        intro h39 e39
        have e39' : h39 = si h34 127 (25 * s + i) (nI (cmP v s i 0)) := by
          rw [e39, g34]
          congr 1
          unfold cmP
          by_cases z : i = 0
          · rw [if_pos (show nI i = 0 by rw [z]; rfl), if_pos z]
          · rw [if_neg (nI_ne0 (by omega) (by omega)), if_neg z]
            split <;> rfl
        refine ⟨vp, ?_⟩
        intro h41 e41
        refine ⟨vp, ?_⟩
        intro h43 e43 x ex
        rw [ex, nI_1 i]
        have f34 : FrI cellsL h1 h34 := by rw [e34]; exact FrI.si (by omega)
        have f39 : FrI cellsL h34 h39 := by rw [e39']; exact FrI.si (by omega)
        have f41 : FrI cellsL h39 h41 := by rw [e41]; exact FrI.si (by omega)
        have f43 : FrI cellsL h41 h43 := by rw [e43]; exact FrI.si (by omega)
        have up : ∀ a k, gi h43 a k = if a = 129 ∧ k = 25 * s + i then nI 0 else if a = 128 ∧ k = 25 * s + i then nI 0 else if a = 127 ∧ k = 25 * s + i then nI (cmP v s i 0) else if a = 126 ∧ k = 25 * s + i then nI (holdsS v s (vT v + i)) else gi h1 a k := by
          intro a k
          rw [e43, gi_si, e41, gi_si, e39', gi_si, e34, gi_si]
          rfl
        refine ih2 h43 ((((k1.trans f34).trans f39).trans f41).trans f43) (fun l2 hl2 => ⟨?_, fun i2 hi2 => ⟨?_, ?_⟩⟩) (fun s' i' q1 q2 => ?_)
        · rw [up, if_neg (by omega), if_neg (by omega), if_neg (by omega), if_neg (by omega)]; exact (k2 l2 hl2).1
        · rw [up, if_neg (by omega), if_neg (by omega), if_neg (by omega), if_neg (by omega)]; exact ((k2 l2 hl2).2 i2 hi2).1
        · rw [up, if_neg (by omega), if_neg (by omega), if_neg (by omega), if_neg (by omega)]; exact ((k2 l2 hl2).2 i2 hi2).2
        · rw [up, up, up, up]
          by_cases e : 25 * s' + i' = 25 * s + i
          · have e1 : s' = s := by omega
            have e2 : i' = i := by omega
            simp [e1, e2]
          · have z0 := k3 s' i' (by omega) q2
            simp [e, z0]
  have key := loop_up (L := fun c l => ∀ h1, FrI cellsL h h1 → (∀ l', l' < l → gi h1 131 l' = nI (takesL v l') ∧ ∀ i, i < 25 → gi h1 125 (25 * l' + i) = nI (rmR v cl wi hl ht l' i) ∧ gi h1 130 (25 * l' + i) = nI 0) → f_X8_layOut_L3 cl wi hl (nI ht) (fun h28 => ∃ n62, f_X8_layOut_L168 (fun h48 => ∃ n61, f_X8_layOut_L285 Q n61 0 h48) Q n62 0 h28) Q c (nI l) h1) (vL v) 0 (by omega) (fun c h1 k1 k2 => ?_) (fun l c _ hl' ih h1 k1 k2 => ?_)
  · obtain ⟨c, hc⟩ := key
    exact ⟨c, hc h FrI.rf (fun l hl => by omega)⟩
  · unfold f_X8_layOut_L3
    rw [(hM.fl k1).1.2.2.2]
    exact br_le (by omega) (by omega) (fun _ => second h1 k1 k2) (fun z => by omega)
  · unfold f_X8_layOut_L3
    have hM1 := hM.fl k1
    rw [hM1.1.2.2.2]
    refine br_le (by omega) (by omega) (fun z => by omega) (fun _ => ?_)
    refine m_takes hF hM1 hl' ⟨vp_in_nI (by omega) (by decide), ?_⟩
    intro h5 e5
    rw [ix_nI (by omega)] at e5
    have key2 := loop_up (L := fun c2 i => ∀ h1, FrI cellsL h h1 → (∀ l', l' < l → gi h1 131 l' = nI (takesL v l') ∧ ∀ i, i < 25 → gi h1 125 (25 * l' + i) = nI (rmR v cl wi hl ht l' i) ∧ gi h1 130 (25 * l' + i) = nI 0) → gi h1 131 l = nI (takesL v l) → (∀ i', i' < i → gi h1 125 (25 * l + i') = nI (rmR v cl wi hl ht l i') ∧ gi h1 130 (25 * l + i') = nI 0) → f_X8_layOut_L28 cl wi hl (nI ht) (nI l) (fun h25 => ∀ x5_26 : Int32, x5_26 = (nI l + 1) → f_X8_layOut_L3 cl wi hl (nI ht) (fun h28 => ∃ n62, f_X8_layOut_L168 (fun h48 => ∃ n61, f_X8_layOut_L285 Q n61 0 h48) Q n62 0 h28) Q c x5_26 h25) Q c2 (nI i) h1) 25 0 (by omega) (fun c2 h1 k1 k2 k3 k4 => ?_) (fun i c2 _ hi ih2 h1 k1 k2 k3 k4 => ?_)
    · obtain ⟨c2, hc2⟩ := key2
      refine ⟨c2, hc2 h5 (k1.trans (by rw [e5]; exact FrI.si (by omega))) (fun l' hl'' => ⟨?_, fun i hi => ⟨?_, ?_⟩⟩) (by rw [e5, gi_si, if_pos ⟨rfl, rfl⟩]) (fun i' hi' => by omega)⟩
      · rw [e5, gi_si, if_neg (by omega)]; exact (k2 l' hl'').1
      · rw [e5, gi_si, if_neg (by omega)]; exact ((k2 l' hl'').2 i hi).1
      · rw [e5, gi_si, if_neg (by omega)]; exact ((k2 l' hl'').2 i hi).2
    · unfold f_X8_layOut_L28
      refine br_le (a := 25) (by omega) (by omega) (fun _ => ?_) (fun z => by omega)
      intro x ex
      rw [ex, nI_1]
      refine ih h1 k1 (fun l' hl'' => ?_)
      by_cases e : l' = l
      · rw [e]; exact ⟨k3, k4⟩
      · exact k2 l' (by omega)
    · unfold f_X8_layOut_L28
      refine br_le (a := 25) (by omega) (by omega) (fun z => by omega) (fun _ => ?_)
      have hM1 := hM.fl k1
      have fin : ∀ r0, r0 ≤ 100000 → r0 = (if nI l = cl then 0 else roomL v l (vT v + i) (if nI l = wi then 1 else 0)) → ∀ h', h' = si (si h1 125 (25 * l + i) (nI ((fun r1 => if i = 0 then r1 - vl v l 8 else r1) (if nI l = hl ∧ ht < r0 then ht else r0)))) 130 (25 * l + i) (nI 0) → f_X8_layOut_L28 cl wi hl (nI ht) (nI l) (fun h25 => ∀ x5_26 : Int32, x5_26 = (nI l + 1) → f_X8_layOut_L3 cl wi hl (nI ht) (fun h28 => ∃ n62, f_X8_layOut_L168 (fun h48 => ∃ n61, f_X8_layOut_L285 Q n61 0 h48) Q n62 0 h28) Q c x5_26 h25) Q c2 (nI (i + 1)) h' := by
        intro r0 b0 e0 h' e'
        have er : (fun r1 => if i = 0 then r1 - vl v l 8 else r1) (if nI l = hl ∧ ht < r0 then ht else r0) = rmR v cl wi hl ht l i := by
          unfold rmR
          rw [← e0]
        rw [er] at e'
        have f1 : FrI cellsL h1 (si h1 125 (25 * l + i) (nI (rmR v cl wi hl ht l i))) := FrI.si (by omega)
        have f2 : FrI cellsL (si h1 125 (25 * l + i) (nI (rmR v cl wi hl ht l i))) h' := by rw [e']; exact FrI.si (by omega)
        refine ih2 h' ((k1.trans f1).trans f2) (fun l' hl'' => ⟨?_, fun i3 hi3 => ⟨?_, ?_⟩⟩) ?_ (fun i' hi' => ⟨?_, ?_⟩)
        · rw [e', gi_si, if_neg (by omega), gi_si, if_neg (by omega)]; exact (k2 l' hl'').1
        · rw [e', gi_si, if_neg (by omega), gi_si, if_neg (by omega)]; exact ((k2 l' hl'').2 i3 hi3).1
        · rw [e', gi_si, if_neg (by omega), gi_si, if_neg (by omega)]; exact ((k2 l' hl'').2 i3 hi3).2
        · rw [e', gi_si, if_neg (by omega), gi_si, if_neg (by omega)]; exact k3
        · rw [e', gi_si, if_neg (by omega), gi_si]
          by_cases e : i' = i
          · rw [if_pos ⟨rfl, by omega⟩, e]
          · rw [if_neg (by omega)]; exact (k4 i' (by omega)).1
        · rw [e', gi_si]
          by_cases e : i' = i
          · rw [if_pos ⟨rfl, by omega⟩]
          · rw [if_neg (by omega), gi_si, if_neg (by omega)]; exact (k4 i' (by omega)).2
      obtain ⟨a0, a1, a2, a3, a4, a5, a6, a7, a8, a9, a10⟩ := hF.2.2.1 l hl'
      have hm := hF.2.2.2.2.1
      refine ⟨fun z => ?_, fun z => ?_⟩
      · exact m_J69 (r0 := 0) hF hM1 hl' hi (by omega) hht (fin 0 (by omega) (by rw [if_pos z]))
      · rw [hM1.1.1, nI_add, show (if nI l = wi then (1 : Int32) else 0) = nI (if nI l = wi then 1 else 0) by split <;> rfl]
        have hmo : (if nI l = wi then 1 else 0) ≤ 1 := by split <;> omega
        have hro : roomL v l (vT v + i) (if nI l = wi then 1 else 0) ≤ 3 * (m + (if nI l = wi then 1 else 0)) := roomV_le a4 a8
        refine m_roomBy hF hM1 hl' (by omega) (by omega) ?_
        exact m_J69 hF hM1 hl' hi (by omega) hht (fin _ (by omega) (by rw [if_neg z]))
end Lo
