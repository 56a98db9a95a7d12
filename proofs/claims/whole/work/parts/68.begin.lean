/-! begin -/
/-- one more than the first; 0: none -/
def fsF (T : Nat → Bool) : Nat → Nat
  | 0 => 0
  | k + 1 => if fsF T k ≠ 0 then fsF T k else if T k = true then k + 1 else 0
theorem fsF_le {T : Nat → Bool} : ∀ k, fsF T k ≤ k
  | 0 => Nat.le_refl _
  | k + 1 => by
    have := fsF_le (T := T) k
    unfold fsF
    split
    · omega
    · split <;> omega
theorem fsF_hit {T : Nat → Bool} {s : Nat} (h0 : fsF T s = 0) (h1 : T s = true) : ∀ d, fsF T (s + 1 + d) = s + 1
  | 0 => by
    show fsF T (s + 1) = s + 1
    unfold fsF
    rw [if_neg (fun q => q h0), if_pos h1]
  | d + 1 => by
    show fsF T (s + 1 + d + 1) = s + 1
    unfold fsF
    rw [fsF_hit h0 h1 d, if_pos (by omega)]
section Pr
variable {v : WV} {g n m B : Nat}
theorem tn_congr2 {v' : WV} {R R' : Nat → Nat → Nat} (hS : vS v = vS v') (hL : vL v = vL v') (hc : ∀ s, s < vS v → s ≠ g → ∀ i, i < 25 → cmV v s i = cmV v' s i) (hh : ∀ s, s < vS v → ∀ i, i < 25 → holdsS v s (vT v + i) = holdsS v' s (vT v' + i)) (ht : ∀ l, takesL v l = takesL v' l) (h1 : ∀ l, vl v l 1 = vl v' l 1) (h2 : ∀ l, vl v l 2 = vl v' l 2) (hR : ∀ l, l < vL v → ∀ i, i < 25 → R l i = R' l i) : tn v R g n = tn v' R' g n := by
  unfold tn
  have e1 : tnT v g = tnT v' g := by
    funext a; unfold tnT; rw [h1]
  have e2 : tnH v g = tnH v' g := by
    funext a; unfold tnH; rw [h2, ht]
  have e3 : tnC v R g n = tnC v' R' g n := by
    funext a
    unfold tnC
    rw [← hS, ← hL, ← h1, ← ht]
    split
    · split
      · rename_i z; exact hc _ z.1 z.2.1 _ (by omega)
      · rfl
    · split
      · split
        · rename_i z; exact hh _ z.1 _ (by omega)
        · rfl
      · split
        · rename_i z; exact hR _ z.1 _ (by omega)
        · rfl
  rw [e1, e2, e3]
abbrev s1V (v : WV) (s : Nat) : WV := setS v s 1 (vs v s 1 + 1)
theorem vs_s1 {s s' k : Nat} : vs (s1V v s) s' k = if s' = s ∧ k = 1 then vs v s 1 + 1 else vs v s' k := vs_setS
theorem WF_s1 {s : Nat} (hF : WF m B v) (hs : s < vS v) (hB : B + 1 ≤ 4000000) : WF m (B + 1) (s1V v s) := by
  obtain ⟨h1, h2, h3, h4, h5, h6⟩ := hF
  have e : stk (s1V v s) = stk v + 1 := by
    have := sm_up (F := fun x => vs (s1V v s) x 1) (G := fun x => vs v x 1) hs (fun i _ hi => by rw [vs_s1, if_neg (fun z => hi z.1)])
    rw [vs_s1, if_pos ⟨rfl, rfl⟩] at this
    show sm (fun x => vs (s1V v s) x 1) (vS v) = sm (fun x => vs v x 1) (vS v) + 1
    omega
  refine ⟨h1, fun s' hs' => ?_, h3, ?_, h5, hB⟩
  · rw [vs_s1, vs_s1, if_neg (by omega), if_neg (by omega)]; exact h2 s' hs'
  · rw [e]
    show stk v + 1 + wya v + vLo v ≤ B + 1
    omega
theorem cm_s1 {s s' i : Nat} : cmV (s1V v s) s' i = if s' = s ∧ i = 0 then cmV v s' i + 1 else cmV v s' i := by
  unfold cmV
  by_cases z : i = 0
  · rw [if_pos z, vs_s1]
    by_cases z2 : s' = s
    · rw [if_pos ⟨z2, rfl⟩, if_pos ⟨z2, z⟩, z2, if_pos z]
    · rw [if_neg (fun q => z2 q.1), if_neg (fun q => z2 q.1), if_pos z]
  · have nn : ¬ (s' = s ∧ i = 0) := fun q => z q.2
    simp only [if_neg z, if_neg nn]
    rfl
theorem own_s1 {s : Nat} : own (s1V v s) g n = if s = g then own v g n + 1 else own v g n := by
  unfold own
  by_cases z : s = g
  · rw [if_pos z]
    have := sm_up (F := fun i => cmV (s1V v s) g i) (G := fun i => cmV v g i) (n := n + 1) (k := 0) (by omega) (fun i _ hi => by rw [cm_s1, if_neg (fun q => hi q.2)])
    rw [cm_s1, if_pos ⟨z.symm, rfl⟩] at this
    omega
  · rw [if_neg z]
    apply sm_congr
    intro i _
    rw [cm_s1, if_neg (fun q => z q.1.symm)]
/-- one more at s helps just where it can still be sent on -/
theorem begin_iff {s x y : Nat} {f : Nat → Nat} {T : Nat → Bool} (hF : WF m B v) (hB : B + 1 ≤ 4000000) (hs : s < vS v) (hg : g < vS v) (hn : n ≤ 24) (hm : Mx (tn v (R0 v) g n) 151 150 f T) (hx : ex (tn v (R0 v) g n) f 150 = (x : Int)) (hy : MxV (tn (s1V v s) (R0 (s1V v s)) g n) y) : own v g n + x < own (s1V v s) g n + y ↔ brF (tn v (R0 v) g n) (nd g s 0) = true := by
  have h6 := hF.1
  have hN : NB (tn v (R0 v) g n) 152 := tn_B hF hn
  have hF' := WF_s1 hF hs hB
  obtain ⟨Br, b1, b2, b3, b4⟩ := br_ex hm
  rw [brF_eq hN b1, own_s1]
  have eR : ∀ l i, R0 (s1V v s) l i = R0 v l i := fun l i => rfl
  by_cases z : s = g
  · have et : tn (s1V v s) (R0 (s1V v s)) g n = tn v (R0 v) g n := tn_congr2 rfl rfl (fun s' _ hsg i _ => by rw [cm_s1, if_neg (fun q => hsg (q.1.trans z))]) (fun s' hs' i _ => by
      show holdsV (vs (s1V v s) s' 0) (vs (s1V v s) s' 2) _ = _
      rw [vs_s1, vs_s1, if_neg (by omega), if_neg (by omega)]; rfl) (fun _ => rfl) (fun _ => rfl) (fun _ => rfl) (fun l _ i _ => eR l i)
    rw [et] at hy
    have := (MxV.uniq hN hy ⟨f, T, hm, hx⟩)
    rw [if_pos z]
    unfold nd
    rw [if_pos z]
    refine ⟨fun _ => b2.1, fun _ => by omega⟩
  · rw [if_neg z]
    obtain ⟨f', T', m', x'⟩ := hy
    have e3 : tn (s1V v s) (R0 (s1V v s)) g n = (nA (tn v (R0 v) g n), nT (tn v (R0 v) g n), nH (tn v (R0 v) g n), nC (tn (s1V v s) (R0 (s1V v s)) g n)) := rfl
    have hN' : NB (tn (s1V v s) (R0 (s1V v s)) g n) 152 := tn_B hF' hn
    have ci := tn_s (v := v) (R := R0 v) (g := g) (n := n) (s := s) (i := 0) (by omega) (by omega)
    have cc : ∀ a, a ≠ 25 * s → nC (tn (s1V v s) (R0 (s1V v s)) g n) a = nC (tn v (R0 v) g n) a := by
      intro a ha
      show tnC (s1V v s) (R0 (s1V v s)) g n a = tnC v (R0 v) g n a
      unfold tnC
      split
      · show (if a / 25 < vS v ∧ a / 25 ≠ g ∧ a % 25 ≤ n then cmV (s1V v s) (a / 25) (a % 25) else 0) = _
        have ce : cmV (s1V v s) (a / 25) (a % 25) = cmV v (a / 25) (a % 25) := by rw [cm_s1, if_neg (by omega)]
        rw [ce]
      · split
        · show (if (a - 150) / 25 < vS v ∧ (a - 150) / 25 ≠ g ∧ (a - 150) % 25 < n then holdsV (vs (s1V v s) ((a - 150) / 25) 0) (vs (s1V v s) ((a - 150) / 25) 2) (vT v + (a - 150) % 25) else 0) = _
          have e0 : vs (s1V v s) ((a - 150) / 25) 0 = vs v ((a - 150) / 25) 0 := by rw [vs_s1, if_neg (by omega)]
          have e2 : vs (s1V v s) ((a - 150) / 25) 2 = vs v ((a - 150) / 25) 2 := by rw [vs_s1, if_neg (by omega)]
          rw [e0, e2]
        · rfl
    have c0 : nC (tn (s1V v s) (R0 (s1V v s)) g n) (25 * s) = nC (tn v (R0 v) g n) (25 * s) + 1 := by
      have c1 := tn_s (v := s1V v s) (R := R0 (s1V v s)) (g := g) (n := n) (s := s) (i := 0) (by omega) (by omega)
      rw [Nat.add_zero] at c1 ci
      rw [c1.2.2, ci.2.2, if_pos ⟨hs, z, by omega⟩, if_pos ⟨hs, z, by omega⟩, cm_s1, if_pos ⟨rfl, rfl⟩]
    rw [Nat.add_zero] at ci
    have key := mx_begin (N := tn v (R0 v) g n) (n := 152) (s := 151) (t := 150) (c' := nC (tn (s1V v s) (R0 (s1V v s)) g n)) (a0 := 25 * s) hN (by rw [← e3]; exact hN') (by omega) (by omega) (by omega) (by rw [tn_A]; omega) ci.1 c0 cc hm.1 b2 b3 b4 (by rw [← e3]; exact m')
    rw [ci.2.1] at key
    rw [← key, hx]
    have : ex (tn v (R0 v) g n) f' 150 = (y : Int) := x'
    rw [this]
    omega
end Pr
section Ops
variable {c : Nat} {σ : ST} {h : HP} {Q : Int32 → HP → Prop}
noncomputable def bgT (v : WV) (g n s : Nat) : Bool := brF (tn v (R0 v) g n) (nd g s 0)
noncomputable def o_begin (σ : ST) (x1 x2 : Int32) : Int32 × ST := by
  classical exact if isAsk σ x1 x2 then ans σ (cd (fsF (bgT (sV σ) (nt x1) (nt x2)) (vS (sV σ)))) 3 else (fnd 0, uF σ 0)
theorem WS_begin {x1 x2 : Int32} (hW : WS c σ) (hc : c < 512) : WS (c + 1) (o_begin σ x1 x2).2 := by
  refine WS_q hW hc ?_
  unfold o_begin
  split
  · exact ans_q
  · exact Or.inr ⟨0, rfl⟩
theorem c_begin {x1 x2 : Int32} (hW : WS c σ) (hI : CI σ h) (hQ : ∀ h', CI (o_begin σ x1 x2).2 h' → LoF h h' → Q (o_begin σ x1 x2).1 h') : f_X7_begin x1 x2 h Q := by
  have hs := hW.small
  have hF := hW.2.1.1
  unfold f_X7_begin
  unfold o_begin at hQ
  refine c_isAsked hW hI (fun p => br1 ?_) (fun p => br0 ?_)
  · rw [if_pos p] at hQ
    have e1 := isS_lt p.1
    have e2 := ask_n p.2
    generalize nt x1 = g at *
    generalize nt x2 = n at *
    rw [e1.1, e2.1]
    refine c_mostIn hF hI.1 (Or.inl rfl) e1.2 e2.2 (fun A V σ' en lf lev h1 d x f1 => ?_)
    have bq := d.bcl
    have bb : ∀ w, brF (tn (sV σ) (R0 (sV σ)) g n) w = lvB lev w := brF_eq (tn_B hF e2.2) ⟨_, _, d.mx, bq.1, bq.2.1, bq.2.2⟩
    have hC1 := hI.1.fc f1.c (by omega) hs.1 hs.2.1
    have key := loop_up (L := fun c s => fsF (bgT (sV σ) g n) s = 0 → f_X7_begin_L29 Q c (nI s) h1) (vS (sV σ)) 0 (by omega) (fun c k1 => ?_) (fun s c _ hs' ih k1 => ?_)
    · obtain ⟨c, hc⟩ := key
      exact ⟨c, hc rfl⟩
    · unfold f_X7_begin_L29
      rw [hC1.1.2.2.1]
      refine br_le (by omega) (by omega) (fun _ => ?_) (fun z => by omega)
      have := c_ans hW hI f1.c hQ
      rw [k1] at this
      exact this.2 (by decide +kernel)
    · unfold f_X7_begin_L29
      rw [hC1.1.2.2.1]
      refine br_le (by omega) (by omega) (fun z => by omega) (fun _ => ?_)
      refine c_canStill x (by omega) (by omega) d (fun t => br1 ?_) (fun t => br0 ?_)
      · have ht : bgT (sV σ) g n s = true := by unfold bgT; rw [bb]; exact t
        have ef := fsF_hit k1 ht (vS (sV σ) - (s + 1))
        rw [show s + 1 + (vS (sV σ) - (s + 1)) = vS (sV σ) by omega] at ef
        have := c_ans hW hI f1.c hQ
        rw [ef, cd_s] at this
        exact this.1 (nI_ge0 (by omega))
      · intro x ex
        rw [ex, nI_1]
        refine ih ?_
        unfold fsF
        have ht : ¬ bgT (sV σ) g n s = true := by unfold bgT; rw [bb]; exact t
        rw [if_neg (fun q => q k1), if_neg ht]
  · rw [if_neg p] at hQ
    exact c_found (by omega) hI hQ fnd0 hs
theorem m_begin {x1 x2 : Int32} (hW : WS c σ) (hI : MI σ h) (hQ : ∀ h', MI (o_begin σ x1 x2).2 h' → HiF h h' → Q (o_begin σ x1 x2).1 h') : f_X8_begin x1 x2 h Q := by
  have hs := hW.small
  have hF := hW.2.1.1
  have hc512 := hW.1
  unfold f_X8_begin
  unfold o_begin at hQ
  refine m_isS hI.1 hs.1 (fun p => br1 ?_) (fun p => br0 ?_)
  · refine m_isAhead (fun p2 => br1 ?_) (fun p2 => br0 ?_)
    · rw [if_pos ⟨p, p2⟩] at hQ
      have e1 := isS_lt (σ := σ) p
      have e2 := ask_n p2
      generalize nt x1 = g at *
      generalize nt x2 = n at *
      rw [e1.1, e2.1]
      refine m_mostOf hF e1.2 e2.2 hI.1 (fun h1 q f1 => ?_)
      obtain ⟨V, fl0, τ0, sh0⟩ := q
      have em := sh0.mos hF e2.2
      have dl := mosV_le hF e1.2 e2.2 ⟨V, sh0.mxv hF e2.2⟩
      have fin : ∀ x4 h2, x4 = cd (fsF (bgT (sV σ) g n) (vS (sV σ))) → FrI cellsX h h2 → f_X8_begin_J96 x4 Q h2 := by
        intro x4 h2 e4 f2
        unfold f_X8_begin_J96
        rw [e4]
        exact m_ans hI (f2.jm cX_jm) hQ
      have key := loop_up (L := fun c s => ∀ h2, FrI cellsX h h2 → f_X8_begin_L35 (nI g) (nI n) (nI (mosV (sV σ) (R0 (sV σ)) g n)) (fun x4_25 h26 => f_X8_begin_J96 x4_25 Q h26) Q c (cd (fsF (bgT (sV σ) g n) s)) (nI s) h2) (vS (sV σ)) 0 (by omega) (fun c h2 k1 => ?_) (fun s c _ hs' ih h2 k1 => ?_)
      · obtain ⟨c, hc⟩ := key
        exact ⟨c, hc h1 f1⟩
      · unfold f_X8_begin_L35
        have hM1 : HM (sV σ) h2 := hI.1.frame k1 (by intro a k; simp only [cellsM, cellsX]; omega)
        rw [hM1.1.2.2.1]
        exact br_le (by omega) (by omega) (fun _ => fin _ h2 rfl k1) (fun z => by omega)
      · unfold f_X8_begin_L35
        have hM1 : HM (sV σ) h2 := hI.1.frame k1 (by intro a k; simp only [cellsM, cellsX]; omega)
        rw [hM1.1.2.2.1]
        refine br_le (by omega) (by omega) (fun z => by omega) (fun _ => ?_)
        by_cases z0 : fsF (bgT (sV σ) g n) s = 0
        · rw [z0, cd_0]
          refine ⟨fun q => absurd q (by decide +kernel), fun _ => ⟨vp_in_nI (by omega) (by decide), vp_in_nI (by omega) (by decide), ?_⟩⟩
          rw [ix_nI (by omega), (hM1.2.1 s hs').2.1, nI_1]
          intro h15 e15
          have M15 : HM (s1V (sV σ) s) h15 := by rw [e15]; exact hm_setS hM1 (k := 1) (by omega)
          have F15 := WF_s1 hF hs' (by omega)
          refine m_mostOf F15 e1.2 e2.2 M15 (fun h16 q f16 => ?_)
          obtain ⟨y, fl, τ, sh⟩ := q
          have em2 := sh.mos F15 e2.2
          have dl2 := mosV_le F15 e1.2 e2.2 ⟨y, sh.mxv F15 e2.2⟩
          have iff := begin_iff hF (by omega) hs' e1.2 e2.2 (sh0.mx hF e2.2) sh0.2.2.1 (sh.mxv F15 e2.2)
          have iff' : mosV (sV σ) (R0 (sV σ)) g n < mosV (s1V (sV σ) s) (R0 (s1V (sV σ) s)) g n ↔ bgT (sV σ) g n s = true := by
            unfold bgT
            rw [← iff, ← em, ← em2]; omega
          intro x4 e4
          have g16 : gi h16 120 s = nI (vs (sV σ) s 1 + 1) := by
            rw [f16.1 _ _ (by simp only [cellsX]; omega), e15, gi_si, if_pos ⟨rfl, rfl⟩]
          rw [g16, lit 1, nI_sub (by omega), Nat.add_sub_cancel]
          refine ⟨vp_in_nI (by omega) (by decide), vp_in_nI (by omega) (by decide), ?_⟩
          intro h23 e23 x5 e5
          rw [nI_add] at e5
          rw [e5]
          have fr : FrI cellsX h h23 := by
            refine ⟨fun a k z => ?_, fun a k => by rw [e23]; show gl h16 a k = _; rw [f16.2.1, e15]; exact k1.2.1 a k, fun j => by rw [e23]; show gw h16 j = _; rw [f16.2.2, e15]; exact k1.2.2 j⟩
            rw [e23, gi_si]
            by_cases q : a = 120 ∧ k = s
            · rw [if_pos q, q.1, q.2]
              exact (hI.1.2.1 s hs').2.1.symm
            · rw [if_neg q, f16.1 a k z, e15, gi_si, if_neg q, k1.1 a k z]
          have ex4 : x4 = cd (fsF (bgT (sV σ) g n) (s + 1)) := by
            have ef : fsF (bgT (sV σ) g n) (s + 1) = if bgT (sV σ) g n s = true then s + 1 else 0 := by
              show (if fsF (bgT (sV σ) g n) s ≠ 0 then fsF (bgT (sV σ) g n) s else if bgT (sV σ) g n s = true then s + 1 else 0) = _
              rw [if_neg (fun q => q z0)]
            rw [ef, e4]
            by_cases q : bgT (sV σ) g n s = true
            · have nle : ¬ nI (mosV (s1V (sV σ) s) (R0 (s1V (sV σ) s)) g n) ≤ nI (mosV (sV σ) (R0 (sV σ)) g n) := by
                intro q2
                have := (nI_leI (by omega) (by omega)).mp q2
                have := iff'.mpr q
                omega
              rw [if_neg nle, if_pos q, cd_s]
            · have le : nI (mosV (s1V (sV σ) s) (R0 (s1V (sV σ) s)) g n) ≤ nI (mosV (sV σ) (R0 (sV σ)) g n) := by
                refine nI_le ?_ (by omega)
                apply Decidable.byContradiction
                intro q2
                exact q (iff'.mp (by omega))
              rw [if_pos le, if_neg q, cd_0]
          rw [ex4]
          exact ih h23 fr
        · obtain ⟨y, hy⟩ : ∃ y, fsF (bgT (sV σ) g n) s = y + 1 := ⟨fsF (bgT (sV σ) g n) s - 1, by omega⟩
          have yl := fsF_le (T := bgT (sV σ) g n) s
          have same : ∀ d, fsF (bgT (sV σ) g n) (s + d) = y + 1 := by
            intro d
            induction d with
            | zero => exact hy
            | succ d ihd =>
              show fsF (bgT (sV σ) g n) (s + d + 1) = y + 1
              unfold fsF
              rw [ihd, if_pos (by omega)]
          have sm' := same (vS (sV σ) - s)
          rw [show s + (vS (sV σ) - s) = vS (sV σ) by omega] at sm'
          rw [hy, cd_s]
          refine ⟨fun _ => fin _ h2 (by rw [sm', cd_s]) k1, fun q => absurd (nI_ge0 (by omega)) q⟩
    · rw [if_neg (fun q => p2 q.2)] at hQ
      exact m_finds (by omega) hI hQ fnd0
  · rw [if_neg (fun q => p q.1)] at hQ
    exact m_finds (by omega) hI hQ fnd0
end Ops
