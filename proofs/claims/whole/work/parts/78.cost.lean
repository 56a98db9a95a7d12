/-! cost -/
def enV (z : Nat) (r : Nat → Int64) (n i : Nat) : Nat := if i < z ∧ 0 ≤ (r i).toInt ∧ (r i).toInt ≤ (n : Int) then ntL (r i) else n + 1
theorem enV_le {z n i : Nat} {r : Nat → Int64} : enV z r n i ≤ n + 1 := by
  unfold enV
  split
  · unfold ntL; omega
  · exact Nat.le_refl _
def cstA (v : WV) (e : Nat → Nat) : Nat := sm (fun s => sm (fun k => cmV v s k) (e s)) (vS v)
def cstB (v : WV) (e : Nat → Nat) : Nat := sm (fun l => sm (fun j => R0 v l (e (vl v l 1) + j)) (e (vl v l 2) - (takesL v l + e (vl v l 1)))) (vL v)
section Ops
variable {c : Nat} {σ : ST} {h : HP} {Q : Int32 → HP → Prop}
theorem c_entry {a z i n : Nat} {r : Nat → Int64} (hz : gi h a 2 = nI z) (hz2 : z ≤ 40) (hr : ∀ i, i < 40 → gl h (a + 1) i = r i) (hi : i < 6) (hn : n ≤ 24) (hQ : Q (nI (enV z r n i)) h) : f_X2_entry a (nI i) (nI n) h Q := by
  unfold f_X2_entry
  rw [hz, ix_nI (by omega), hr i (by omega), nI_1]
  unfold enV at hQ
  refine br_le (by omega) (by omega) (fun q => ?_) (fun q => ⟨vp_in_nI (by omega) (by decide), ?_⟩)
  · rw [if_neg (by omega)] at hQ; exact hQ
  · simp only [cmp_lt]
    have cl : lg_cmp (r i) (nI n).toInt64 ≤ 0 ↔ (r i).toInt ≤ (n : Int) := by
      rw [← nlt32, cmp_gt, i64_lt, w_toInt, nI_toInt (by omega)]; omega
    rw [i64_lt, i64_0]
    refine ⟨fun q2 => ?_, fun q2 => ⟨vp_in_nI (by omega) (by decide), ?_⟩⟩
    · rw [if_neg (by omega)] at hQ; exact hQ
    · rw [cl]
      refine ⟨fun q3 => ⟨vp_in_nI (by omega) (by decide), ?_⟩, fun q3 => ?_⟩
      · rw [if_pos ⟨q, by omega, q3⟩] at hQ
        have er : r i = lN (ntL (r i)) := lN_of (by unfold ntL; omega) (by unfold ntL; omega)
        rw [er, lN_i]; exact hQ
      · rw [if_neg (by omega)] at hQ; exact hQ
theorem c_costOut {m B a z n : Nat} {v : WV} {r : Nat → Int64} (hF : WF m B v) (hC : HC 1 v h) (hz : gi h a 2 = nI z) (hz2 : z ≤ 40) (hr : ∀ i, i < 40 → gl h (a + 1) i = r i) (hn : n ≤ 24) (hQ : Q (nI (cstA v (enV z r n))) h) : f_X6_costOutside 1 a (nI n) h Q := by
  have h6 := hF.1
  unfold f_X6_costOutside
  refine loop_up (L := fun f s => f_X6_costOutside_L5 1 a (nI n) Q f (nI (sm (fun s => sm (fun k => cmV v s k) (enV z r n s)) s)) (nI s) h) (vS v) 0 (by omega) (fun f => ?_) (fun s f _ hs ih => ?_)
  · unfold f_X6_costOutside_L5
    rw [hC.1.2.2.1]
    exact br_le (by omega) (by omega) (fun _ => hQ) (fun z => by omega)
  · unfold f_X6_costOutside_L5
    rw [hC.1.2.2.1]
    refine br_le (by omega) (by omega) (fun z => by omega) (fun _ => ?_)
    refine c_entry hz hz2 hr (by omega) hn ?_
    have le := enV_le (z := z) (r := r) (n := n) (i := s)
    generalize eE : enV z r n s = E at *
    have key := loop_up (L := fun f2 k => f_X6_costOutside_L26 1 a (nI n) (nI s) (nI E) (fun x3_10 h11 => ∀ x4_12 : Int32, x4_12 = (nI s + 1) → f_X6_costOutside_L5 1 a (nI n) Q f x3_10 x4_12 h11) Q f2 (nI (sm (fun s => sm (fun k => cmV v s k) (enV z r n s)) s + sm (fun k => cmV v s k) k)) (nI k) h) E 0 (by omega) (fun f2 => ?_) (fun k f2 _ hk ih2 => ?_)
    · exact key
    · unfold f_X6_costOutside_L26
      have nx : ∀ x4_12 : Int32, x4_12 = (nI s + 1) → f_X6_costOutside_L5 1 a (nI n) Q f (nI (sm (fun s => sm (fun k => cmV v s k) (enV z r n s)) s + sm (fun k => cmV v s k) E)) x4_12 h := by
        intro x ex
        rw [ex, nI_1]
        have := ih
        rw [sm, eE] at this
        exact this
      exact ⟨fun _ => nx, fun _ => br_le (by omega) (by omega) (fun _ => nx) (fun z => by omega)⟩
    · unfold f_X6_costOutside_L26
      refine br_lt (by omega) (by omega) (fun z => by omega) (fun _ => br_le (by omega) (by omega) (fun z => by omega) (fun _ => ?_))
      refine c_supply hF hC hs (by omega) ?_
      intro x ex y ey
      rw [ex, ey, nI_add, nI_1 k, Nat.add_assoc]
      exact ih2
theorem c_costLines {m B a z n : Nat} {v : WV} {r : Nat → Int64} (hF : WF m B v) (hC : HC 1 v h) (hz : gi h a 2 = nI z) (hz2 : z ≤ 40) (hr : ∀ i, i < 40 → gl h (a + 1) i = r i) (hn : n ≤ 24) (hQ : Q (nI (cstB v (enV z r n))) h) : f_X6_costOfLines 1 a (nI n) h Q := by
  have h6 := hF.1
  unfold f_X6_costOfLines
  refine loop_up (L := fun f l => f_X6_costOfLines_L5 1 a (nI n) Q f (nI (sm (fun l => sm (fun j => R0 v l (enV z r n (vl v l 1) + j)) (enV z r n (vl v l 2) - (takesL v l + enV z r n (vl v l 1)))) l)) (nI l) h) (vL v) 0 (by omega) (fun f => ?_) (fun l f _ hl ih => ?_)
  · unfold f_X6_costOfLines_L5
    rw [hC.1.2.2.2]
    exact br_le (by omega) (by omega) (fun _ => hQ) (fun z => by omega)
  · unfold f_X6_costOfLines_L5
    have hll := hF.2.2.1 l hl
    have tk := takesL_le hF hl
    rw [hC.1.2.2.2, ix_nI (by omega), show 1 + 2 + 7 + 2 * l = 1 + 9 + 2 * l by omega]
    refine br_le (by omega) (by omega) (fun z => by omega) (fun _ => ⟨vp_in_nI (by omega) (by decide), ?_⟩)
    refine c_takes hF hC hl ⟨vp_in_nI (by omega) (by decide), ?_⟩
    rw [hC.2.2.1 l hl 2 (by omega)]
    refine c_entry hz hz2 hr (by omega) hn ⟨vp_in_nI (by omega) (by decide), ?_⟩
    rw [hC.2.2.1 l hl 1 (by omega)]
    refine c_entry hz hz2 hr (by omega) hn ?_
    have le1 := enV_le (z := z) (r := r) (n := n) (i := vl v l 1)
    have le2 := enV_le (z := z) (r := r) (n := n) (i := vl v l 2)
    generalize eE : enV z r n (vl v l 1) = E0 at *
    generalize eE2 : enV z r n (vl v l 2) = E1 at *
    have key := loop_up (L := fun f2 j => f_X6_costOfLines_L60 1 a (nI n) (nI l) (nI (takesL v l)) (nI E1) (fun x3_16 h17 => ∀ x4_18 : Int32, x4_18 = (nI l + 1) → f_X6_costOfLines_L5 1 a (nI n) Q f x3_16 x4_18 h17) Q f2 (nI (sm (fun l => sm (fun j => R0 v l (enV z r n (vl v l 1) + j)) (enV z r n (vl v l 2) - (takesL v l + enV z r n (vl v l 1)))) l + sm (fun j => R0 v l (E0 + j)) j)) (nI (E0 + j)) h) (E1 - (takesL v l + E0)) 0 (by omega) (fun f2 => ?_) (fun j f2 _ hj ih2 => ?_)
    · exact key
    · unfold f_X6_costOfLines_L60
      rw [nI_add]
      refine br_le (by omega) (by omega) (fun _ => ?_) (fun z => by omega)
      intro x ex
      rw [ex, nI_1]
      have := ih
      rw [sm, eE, eE2] at this
      exact this
    · unfold f_X6_costOfLines_L60
      rw [nI_add]
      refine br_le (by omega) (by omega) (fun z => by omega) (fun _ => ?_)
      refine c_roomAhead (hl := -1) (ht := 0) hF hC hl (by omega) (by omega) (by rw [if_neg (nI_nm1 (by omega))]) ?_
      have eR : rmR v (-1) (-1) (-1) 0 l (E0 + j) = R0 v l (E0 + j) := by
        show _ = rmB v (-1) (-1) (-1) 0 l (E0 + j)
        unfold rmB; rw [if_pos hl]
      intro x ex y ey
      rw [ex, ey, nI_add, nI_1 (E0 + j), eR, Nat.add_assoc, Nat.add_assoc]
      exact ih2
noncomputable def o_cost (σ : ST) (x1 x2 x3 : Int32) : Int32 × ST := by
  classical exact if isH σ x1 then (if isAsk σ x2 x3 then (if enV (sZ σ (nt x1)) (sN σ (nt x1)) (nt x3) (nt x2) ≤ nt x3 then (fnd 4, uF σ 4) else (nI (cstA (sV σ) (enV (sZ σ (nt x1)) (sN σ (nt x1)) (nt x3)) + cstB (sV σ) (enV (sZ σ (nt x1)) (sN σ (nt x1)) (nt x3))), σ)) else (fnd 0, uF σ 0)) else (fnd (hF5 σ x1), uF σ (hF5 σ x1))
theorem WS_cost {x1 x2 x3 : Int32} (hW : WS c σ) (hc : c < 512) : WS (c + 1) (o_cost σ x1 x2 x3).2 := by
  refine WS_q hW hc ?_
  unfold o_cost
  split
  · split
    · split
      · exact Or.inr ⟨4, rfl⟩
      · exact Or.inl rfl
    · exact Or.inr ⟨0, rfl⟩
  · exact Or.inr ⟨_, rfl⟩
theorem c_cost {x1 x2 x3 : Int32} (hW : WS c σ) (hI : CI σ h) (hQ : ∀ h', CI (o_cost σ x1 x2 x3).2 h' → LoF h h' → Q (o_cost σ x1 x2 x3).1 h') : f_X7_cost x1 x2 x3 h Q := by
  have hs := hW.small
  have hF := hW.2.1.1
  unfold f_X7_cost
  unfold o_cost at hQ
  refine c_sheetU hW hI (fun p => ?_) (fun p => ?_)
  · rw [if_pos p] at hQ
    refine c_isAsked hW hI (fun p2 => br1 ?_) (fun p2 => br0 ?_)
    · rw [if_pos p2] at hQ
      have e := sh_lt p.1
      have e1 := isS_lt p2.1
      have e2 := ask_n p2.2
      generalize nt x1 = s at *
      generalize nt x2 = g at *
      generalize nt x3 = n at *
      have I := hI.2.2.2.2 s e.2
      have hz := (hW.2.2.2.2.2 s e.2).2.1
      have I3 : ∀ i, i < 40 → gl h (109 + 2 * s + 1) i = sN σ s i := fun i hi => by rw [show 109 + 2 * s + 1 = 110 + 2 * s by omega]; exact I.2.2 i hi
      rw [e.1, e1.1, e2.1, ix_nI (by omega), show 107 + 2 + 2 * s = 109 + 2 * s by omega]
      refine ⟨vp_in_nI e.2 (by decide), ?_⟩
      refine c_entry I.2.1 hz I3 (by omega) e2.2 ?_
      have le := enV_le (z := sZ σ s) (r := sN σ s) (n := n) (i := g)
      refine br_lt (by omega) (by omega) (fun q => ?_) (fun q => ?_)
      · rw [if_neg (by omega)] at hQ
        refine c_costOut hF hI.1 I.2.1 hz I3 e2.2 ?_
        refine c_costLines hF hI.1 I.2.1 hz I3 e2.2 ?_
        rw [nI_add]
        exact hQ h hI LoF.rf
      · rw [if_pos q] at hQ
        exact c_found (by omega) hI hQ fnd4 hs
    · rw [if_neg p2] at hQ
      exact c_found (by omega) hI hQ fnd0 hs
  · rw [if_neg p] at hQ
    exact c_found hF5_lt hI hQ rfl hs
theorem m_cost {x1 x2 x3 : Int32} (hW : WS c σ) (hI : MI σ h) (hQ : ∀ h', MI (o_cost σ x1 x2 x3).2 h' → HiF h h' → Q (o_cost σ x1 x2 x3).1 h') : f_X8_cost x1 x2 x3 h Q := by
  have hs := hW.small
  have hF := hW.2.1.1
  unfold f_X8_cost
  unfold o_cost at hQ
  refine m_sheetU hW hI (fun p => ?_) (fun p => ?_)
  · rw [if_pos p] at hQ
    refine m_isS hI.1 hs.1 (fun p2 => br1 ?_) (fun p2 => br0 ?_)
    · refine m_isAhead (fun p3 => br1 ?_) (fun p3 => br0 ?_)
      · rw [if_pos ⟨p2, p3⟩] at hQ
        have e := sh_lt p.1
        have e1 := isS_lt (σ := σ) p2
        have e2 := ask_n p3
        generalize nt x1 = s at *
        generalize nt x2 = g at *
        generalize nt x3 = n at *
        have I := hI.2.2.2.2 s e.2
        have hz := (hW.2.2.2.2.2 s e.2).2.1
        generalize eE : enV (sZ σ s) (sN σ s) n = E at *
        have Ele : ∀ i, E i ≤ n + 1 := fun i => by rw [← eE]; exact enV_le
        rw [e.1, e1.1, e2.1]
        have fourth : ∀ x4 h1, x4 = nI (cstA (sV σ) E) → RS (sV σ) (R0 (sV σ)) (fun _ => 0) h1 → HM (sV σ) h1 → (∀ t, t < vS (sV σ) → gi h1 133 t = nI (E t)) → FrI junkM h h1 → ¬ E g ≤ n → ∃ f, f_X8_cost_L217 (nI n) Q f x4 0 h1 := by
          intro x4 h1 k0 k1 k2 k3 k4 k5
          rw [k0]
          rw [if_neg k5] at hQ
          refine loop_up (L := fun f l => f_X8_cost_L217 (nI n) Q f (nI (cstA (sV σ) E + sm (fun l => sm (fun j => R0 (sV σ) l (E (vl (sV σ) l 1) + j)) (E (vl (sV σ) l 2) - (takesL (sV σ) l + E (vl (sV σ) l 1)))) l)) (nI l) h1) (vL (sV σ)) 0 (by omega) (fun f => ?_) (fun l f _ hl ih => ?_)
          · unfold f_X8_cost_L217
            rw [k2.1.2.2.2]
            exact br_le (by omega) (by omega) (fun _ => hQ h1 (hI.junk k4) (jm_hi k4)) (fun z => by omega)
          · unfold f_X8_cost_L217
            have hll := hF.2.2.1 l hl
            have tk := takesL_le hF hl
            rw [k2.1.2.2.2]
            refine br_le (by omega) (by omega) (fun z => by omega) (fun _ => ?_)
            rw [show f_X8_at (nI l) 1 h1 = f_X8_at (nI l) (nI 1) h1 from rfl, m_at hF k2 hl (by omega), ix_nI (by omega), k3 _ hll.2.1]
            refine ⟨vp_in_nI (by omega) (by decide), ?_⟩
            intro x6 e6
            rw [e6]
            have le1 := Ele (vl (sV σ) l 1)
            have le2 := Ele (vl (sV σ) l 2)
            have key := loop_up (L := fun f2 j => f_X8_cost_L240 (nI n) (nI l) (fun x4_59 h60 => ∀ x5_61 : Int32, x5_61 = (nI l + 1) → f_X8_cost_L217 (nI n) Q f x4_59 x5_61 h60) Q f2 (nI (cstA (sV σ) E + sm (fun l => sm (fun j => R0 (sV σ) l (E (vl (sV σ) l 1) + j)) (E (vl (sV σ) l 2) - (takesL (sV σ) l + E (vl (sV σ) l 1)))) l + sm (fun j => if E (vl (sV σ) l 2) ≤ E (vl (sV σ) l 1) + j + takesL (sV σ) l then 0 else R0 (sV σ) l (E (vl (sV σ) l 1) + j)) j)) (nI (E (vl (sV σ) l 1) + j)) h1) (n + 1 - (takesL (sV σ) l + E (vl (sV σ) l 1))) 0 (by omega) (fun f2 => ?_) (fun j f2 _ hj ih2 => ?_)
            · exact key
            · unfold f_X8_cost_L240
              rw [ix_nI (by omega), k1.1 l hl, nI_add]
              refine ⟨vp_in_nI (by omega) (by decide), br_lt (by omega) (by omega) (fun _ => ?_) (fun z => by omega)⟩
              intro x ex
              rw [ex, nI_1]
              have t := ih
              rw [sm] at t
              have es : sm (fun j => if E (vl (sV σ) l 2) ≤ E (vl (sV σ) l 1) + j + takesL (sV σ) l then 0 else R0 (sV σ) l (E (vl (sV σ) l 1) + j)) (n + 1 - (takesL (sV σ) l + E (vl (sV σ) l 1))) = sm (fun j => R0 (sV σ) l (E (vl (sV σ) l 1) + j)) (E (vl (sV σ) l 2) - (takesL (sV σ) l + E (vl (sV σ) l 1))) := by
                rw [sm_zero (m := E (vl (sV σ) l 2) - (takesL (sV σ) l + E (vl (sV σ) l 1))) (fun j h1 h2 => if_pos (by omega)) (by omega)]
                exact sm_congr (fun j hj => if_neg (by omega))
              rw [es, Nat.add_assoc]
              exact t
            · unfold f_X8_cost_L240
              rw [ix_nI (by omega), k1.1 l hl, nI_add]
              refine ⟨vp_in_nI (by omega) (by decide), br_lt (by omega) (by omega) (fun z => by omega) (fun _ => ⟨vp_in_nI (by omega) (by decide), ?_⟩)⟩
              rw [show f_X8_at (nI l) 2 h1 = f_X8_at (nI l) (nI 2) h1 from rfl, m_at hF k2 hl (by omega), ix_nI (by omega), k3 _ hll.2.2.1, lit 25, nI_mul, nI_add, ix_nI (by omega)]
              refine ⟨vp_in_nI (by omega) (by decide), fun _ => vp_in_nI (by omega) (by decide), ?_⟩
              intro x ex y ey
              rw [ey, nI_1 (E (vl (sV σ) l 1) + j)]
              rw [(k1.2.1 l hl _ (by omega)).1] at ex
              have ex' : x = nI (cstA (sV σ) E + sm (fun l => sm (fun j => R0 (sV σ) l (E (vl (sV σ) l 1) + j)) (E (vl (sV σ) l 2) - (takesL (sV σ) l + E (vl (sV σ) l 1)))) l + sm (fun j => if E (vl (sV σ) l 2) ≤ E (vl (sV σ) l 1) + j + takesL (sV σ) l then 0 else R0 (sV σ) l (E (vl (sV σ) l 1) + j)) (j + 1)) := by
                rw [ex, sm]
                by_cases z : E (vl (sV σ) l 2) ≤ E (vl (sV σ) l 1) + j + takesL (sV σ) l
                · rw [if_pos (nI_le z (by omega)), if_pos z, lit 0, nI_add, Nat.add_assoc]
                · rw [if_neg (fun q => z ((nI_leI (by omega) (by omega)).mp q)), if_neg z, nI_add, Nat.add_assoc]
              rw [ex', show E (vl (sV σ) l 1) + j + 1 = E (vl (sV σ) l 1) + (j + 1) from Nat.add_assoc _ _ _]
              exact ih2
        have third : ∀ h1, RS (sV σ) (R0 (sV σ)) (fun _ => 0) h1 → HM (sV σ) h1 → (∀ t, t < vS (sV σ) → gi h1 133 t = nI (E t)) → FrI junkM h h1 → ¬ E g ≤ n → ∃ f, f_X8_cost_L160 (nI n) (fun x4_41 h42 => ∃ n63, f_X8_cost_L217 (nI n) Q n63 x4_41 0 h42) Q f 0 0 h1 := by
          intro h1 k1 k2 k3 k4 k5
          refine loop_up (L := fun f t => f_X8_cost_L160 (nI n) (fun x4_41 h42 => ∃ n63, f_X8_cost_L217 (nI n) Q n63 x4_41 0 h42) Q f (nI (sm (fun s => sm (fun k => cmV (sV σ) s k) (E s)) t)) (nI t) h1) (vS (sV σ)) 0 (by omega) (fun f => ?_) (fun t f _ ht ih => ?_)
          · unfold f_X8_cost_L160
            rw [k2.1.2.2.1]
            exact br_le (by omega) (by omega) (fun _ => fourth _ h1 rfl k1 k2 k3 k4 k5) (fun z => by omega)
          · unfold f_X8_cost_L160
            rw [k2.1.2.2.1]
            refine br_le (by omega) (by omega) (fun z => by omega) (fun _ => ?_)
            have le1 := Ele t
            have key := loop_up (L := fun f2 k => f_X8_cost_L172 (nI n) (nI t) (fun x4_37 h38 => ∀ x5_39 : Int32, x5_39 = (nI t + 1) → f_X8_cost_L160 (nI n) (fun x4_41 h42 => ∃ n63, f_X8_cost_L217 (nI n) Q n63 x4_41 0 h42) Q f x4_37 x5_39 h38) Q f2 (nI (sm (fun s => sm (fun k => cmV (sV σ) s k) (E s)) t + sm (fun k => cmV (sV σ) t k) k)) (nI k) h1) (E t) 0 (by omega) (fun f2 => ?_) (fun k f2 _ hk ih2 => ?_)
            · exact key
            · unfold f_X8_cost_L172
              rw [ix_nI (by omega), k3 t ht]
              refine ⟨vp_in_nI (by omega) (by decide), br_le (by omega) (by omega) (fun _ => ?_) (fun z => by omega)⟩
              intro x ex
              rw [ex, nI_1]
              have q := ih
              rw [sm] at q
              exact q
            · unfold f_X8_cost_L172
              rw [ix_nI (by omega), k3 t ht, lit 25, nI_mul, nI_add, ix_nI (by omega), (k1.2.2 t ht k (by omega)).2.1]
              refine ⟨vp_in_nI (by omega) (by decide), br_le (by omega) (by omega) (fun z => by omega) (fun _ => ⟨vp_in_nI (by omega) (by decide), ?_⟩)⟩
              intro x ex y ey
              rw [ex, ey, nI_add, nI_1 k, Nat.add_assoc]
              exact ih2
        obtain ⟨K, eK⟩ : ∃ K : HP → Prop, K = (fun h27 => vp_in (nI g) 150 ∧ (((nI n < (gi h27 133 (ix (nI g)))) → f_X8_layOut (-1 : Int32) (-1 : Int32) (-1 : Int32) 0 h27 (fun h30 => ∃ n64, f_X8_cost_L160 (nI n) (fun x4_41 h42 => ∃ n63, f_X8_cost_L217 (nI n) Q n63 x4_41 0 h42) Q n64 0 0 h30)) ∧ (¬ (nI n < (gi h27 133 (ix (nI g)))) → f_X8_finds (-1000000005 : Int32) h27 (fun v66 h65 => Q v66 h65)))) := ⟨_, rfl⟩
        have key := loop_up (L := fun f t => ∀ h1, (∀ t', t' < t → gi h1 133 t' = nI (E t')) → FrI (fun a _ => a = 133) h h1 → f_X8_cost_L56 (nI s) (nI g) (nI n) K Q f (nI t) h1) (vS (sV σ)) 0 (by omega) (fun f h1 k1 k2 => ?_) (fun t f _ ht ih h1 k1 k2 => ?_)
        · obtain ⟨f, hf⟩ := key
          have hf := hf h (fun t' ht' => by omega) FrI.rf
          rw [eK] at hf
          exact ⟨f, hf⟩
        · unfold f_X8_cost_L56
          have M1 : HM (sV σ) h1 := hI.1.frame k2 (by intro a k; simp only [cellsM]; omega)
          have j1 : FrI junkM h h1 := k2.jm (by intro a k; simp only [junkM]; omega)
          rw [M1.1.2.2.1]
          refine br_le (by omega) (by omega) (fun _ => ?_) (fun z => by omega)
          rw [eK]
          refine ⟨vp_in_nI (by omega) (by decide), ?_⟩
          have le1 := Ele g
          rw [ix_nI (by omega), k1 g e1.2]
          refine br_lt (by omega) (by omega) (fun q => ?_) (fun q => ?_)
          · refine m_layOut (ht := 0) hF M1 (by omega) (fun h2 r2 f2 => ?_)
            refine third h2 r2.toB (M1.fl f2) (fun t ht => by rw [f2.1 _ _ (by simp only [cellsL]; omega)]; exact k1 t ht) (j1.trans (f2.jm (by intro a k; simp only [cellsL, junkM]; omega))) (by omega)
          · rw [if_pos q] at hQ
            exact m_finds (by omega) (hI.junk j1) (fun h' a b => hQ h' a ((jm_hi j1).trans b)) fnd4
        · unfold f_X8_cost_L56
          have M1 : HM (sV σ) h1 := hI.1.frame k2 (by intro a k; simp only [cellsM]; omega)
          have g141 : gi h1 141 s = nI (sZ σ s) := by rw [k2.1 _ _ (by omega)]; exact I.2.1
          have g142 : gl h1 142 (40 * s + t) = sN σ s t := by rw [k2.2.1]; exact I.2.2 t (by omega)
          rw [M1.1.2.2.1, ix_nI (k := s) (by omega), g141, lit 40, nI_mul, nI_add, ix_nI (by omega), g142]
          refine br_le (by omega) (by omega) (fun z => by omega) (fun _ => ⟨vp_in_nI e.2 (by decide), fun _ => vp_in_nI (by omega) (by decide), ?_⟩)
          intro x5 e5
          have nx : ∀ v21 : Int32, ∀ hh : (if v21 = 0 then ((nI n + 1) : Int32) else (x5 : Int64).toInt32) = nI (E t), vp_in (nI t) 150 ∧ ∀ h25 : HP, h25 = si h1 133 (ix (nI t)) (if v21 = 0 then ((nI n + 1) : Int32) else (x5 : Int64).toInt32) → ∀ x4_26 : Int32, x4_26 = (nI t + 1) → f_X8_cost_L56 (nI s) (nI g) (nI n) K Q f x4_26 h25 := by
            intro v21 hh
            refine ⟨vp_in_nI (by omega) (by decide), ?_⟩
            intro h25 e25 y ey
            rw [hh, ix_nI (by omega)] at e25
            rw [ey, nI_1]
            refine ih h25 (fun t' ht' => ?_) (k2.trans (by rw [e25]; exact FrI.si rfl))
            rw [e25, gi_si]
            by_cases z : t' = t
            · rw [if_pos ⟨rfl, z⟩, z]
            · rw [if_neg (fun q => z q.2)]; exact k1 t' (by omega)
          apply t_in
          have eV : E t = if t < sZ σ s ∧ 0 ≤ (sN σ s t).toInt ∧ (sN σ s t).toInt ≤ (n : Int) then ntL (sN σ s t) else n + 1 := by rw [← eE]; rfl
          by_cases z : t < sZ σ s
          · rw [if_neg (fun q => by have := (nI_leI (by omega) (by omega)).mp q; omega)] at e5
            have zi : ((0 : Int64) ≤ x5 ∧ x5 ≤ (nI n).toInt64) ↔ (0 ≤ (sN σ s t).toInt ∧ (sN σ s t).toInt ≤ (n : Int)) := by
              rw [e5, i64_le, i64_le, i64_0, w_toInt, nI_toInt (by omega)]
            by_cases z2 : 0 ≤ (sN σ s t).toInt ∧ (sN σ s t).toInt ≤ (n : Int)
            · rw [if_pos (zi.mpr z2)]
              refine nx 1 ?_
              have er : sN σ s t = lN (ntL (sN σ s t)) := lN_of (by unfold ntL; omega) (by unfold ntL; omega)
              rw [if_neg n10, e5, eV, if_pos ⟨z, z2⟩]
              generalize ntL (sN σ s t) = y at *
              rw [er, lN_i]
            · rw [if_neg (fun q => z2 (zi.mp q))]
              refine nx 0 ?_
              rw [if_pos rfl, nI_1, eV, if_neg (fun q => z2 q.2)]
          · rw [if_pos (nI_le (by omega) (by omega))] at e5
            rw [e5, if_neg (fun q : ((0 : Int64) ≤ (-1 : Int64) ∧ _) => absurd q.1 (by decide +kernel))]
            refine nx 0 ?_
            rw [if_pos rfl, nI_1, eV, if_neg (fun q => z q.1)]
      · rw [if_neg (fun q => p3 q.2)] at hQ
        exact m_finds (by omega) hI hQ fnd0
    · rw [if_neg (fun q => p2 q.1)] at hQ
      exact m_finds (by omega) hI hQ fnd0
  · rw [if_neg p] at hQ
    exact m_finds hF5_lt hI hQ rfl
end Ops
