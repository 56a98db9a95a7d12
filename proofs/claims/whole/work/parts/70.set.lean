/-! set, change, as, stands, send, go -/
theorem WF_setS {m B B' : Nat} {v : WV} {s k y : Nat} (hF : WF m B v) (hs : s < vS v) (hy : (k = 0 → y < 4) ∧ (k = 2 → y ≤ 99)) (hB : B + y ≤ B') (hB' : B' ≤ 4000000) : WF m B' (setS v s k y) := by
  obtain ⟨h1, h2, h3, h4, h5, h6⟩ := hF
  have e : stk (setS v s k y) ≤ stk v + y := by
    have := sm_up (F := fun x => vs (setS v s k y) x 1) (G := fun x => vs v x 1) hs (fun i _ hi => by rw [vs_setS, if_neg (fun z => hi z.1)])
    rw [vs_setS] at this
    show sm (fun x => vs (setS v s k y) x 1) (vS v) ≤ sm (fun x => vs v x 1) (vS v) + y
    split at this <;> omega
  refine ⟨h1, fun s' hs' => ?_, h3, ?_, h5, hB'⟩
  · have q := h2 s' hs'
    rw [vs_setS, vs_setS]
    refine ⟨?_, ?_⟩
    · split
      · rename_i z; exact hy.1 z.2.symm
      · exact q.1
    · split
      · rename_i z; exact hy.2 z.2.symm
      · exact q.2
  · show stk (setS v s k y) + wya v + vLo v ≤ B'
    omega
def okL (v : WV) (m l k y : Nat) : Prop := k < 8 ∧ (k = 0 → y < 6) ∧ (k = 1 → y < vS v ∧ y ≠ vl v l 2) ∧ (k = 2 → y < vS v ∧ y ≠ vl v l 1) ∧ (k = 3 → y ≤ m) ∧ (k = 4 → 1 ≤ y ∧ y ≤ 9) ∧ (k = 5 → y ≤ 5) ∧ (k = 6 → y ≤ m) ∧ (k = 7 → y ≤ 99999)
theorem WF_setL {m B : Nat} {v : WV} {l k y : Nat} (hF : WF m B v) (hk : okL v m l k y) : WF m B (setL v l k y) := by
  obtain ⟨h1, h2, h3, h4, h5, h6⟩ := hF
  refine ⟨h1, h2, fun l' hl' => ?_, h4, h5, h6⟩
  obtain ⟨a0, a1, a2, a3, a4, a5, a6, a7, a8, a9, a10⟩ := h3 l' hl'
  obtain ⟨k8, k0, k1, k2, k3, k4, k5, k6, k7⟩ := hk
  have key : ∀ j, vl (setL v l k y) l' j = if l' = l ∧ j = k then y else vl v l' j := fun j => vl_setL
  have vSe : vS (setL v l k y) = vS v := rfl
  rw [key 0, key 1, key 2, key 3, key 4, key 5, key 6, key 7, key 8, vSe]
  by_cases z : l' = l
  · subst z
    have hk' : k = 0 ∨ k = 1 ∨ k = 2 ∨ k = 3 ∨ k = 4 ∨ k = 5 ∨ k = 6 ∨ k = 7 := by omega
    rcases hk' with rfl | rfl | rfl | rfl | rfl | rfl | rfl | rfl <;> simp <;> simp at k0 k1 k2 k3 k4 k5 k6 k7 <;> omega
  · simp only [z, false_and, if_false]
    exact ⟨a0, a1, a2, a3, a4, a5, a6, a7, a8, a9, a10⟩
section Ops
variable {c : Nat} {σ : ST} {h : HP} {Q : Int32 → HP → Prop}
def grS (x : Int32) : Int := if x = 0 then 3 else if x = 1 then 999 else 99
def o_set (σ : ST) (x1 x2 x3 : Int32) : Int32 × ST := if isS σ x1 ∧ InR x2 0 2 ∧ InR x3 0 (grS x2) then (nI (vs (sV σ) (nt x1) (nt x2)), uV σ (setS (sV σ) (nt x1) (nt x2) (nt x3))) else (fnd 0, uF σ 0)
theorem WS_set {x1 x2 x3 : Int32} (hW : WS c σ) (hc : c < 512) : WS (c + 1) (o_set σ x1 x2 x3).2 := by
  unfold o_set
  split
  · rename_i p
    have e1 := isS_lt p.1
    have g : grS x2 ≤ 999 := by unfold grS; split <;> (try split) <;> omega
    have b3 : nt x3 ≤ 999 := by unfold nt; omega
    refine WS_V hW hc (WF_setS hW.2.1.1 e1.2 ⟨fun q => ?_, fun q => ?_⟩ (by omega) (by omega)) hW.2.1.2
    · have : x2 = 0 := by rw [nt_nI p.2.1.1, q]; rfl
      have g2 : grS x2 = 3 := by unfold grS; rw [if_pos this]
      have := p.2.2.2
      unfold nt; omega
    · have n0 : ¬ x2 = 0 := fun z => by rw [z] at q; exact absurd q (by decide +kernel)
      have n1 : ¬ x2 = 1 := fun z => by rw [z] at q; exact absurd q (by decide +kernel)
      have g2 : grS x2 = 99 := by unfold grS; rw [if_neg n0, if_neg n1]
      have := p.2.2.2
      unfold nt; omega
  · exact WS_F hW hc
theorem x012 {x : Int32} (h : InR x 0 2) : x = nI 0 ∨ x = nI 1 ∨ x = nI 2 := by
  have e := nt_nI h.1
  have : nt x = 0 ∨ nt x = 1 ∨ nt x = 2 := by unfold nt; omega
  rcases this with z | z | z <;> rw [z] at e
  · exact Or.inl e
  · exact Or.inr (Or.inl e)
  · exact Or.inr (Or.inr e)
theorem nt_of (n : Nat) (h : n < 2 ^ 31) : nt (nI n) = n := by unfold nt; rw [nI_toInt h]; rfl
theorem c_set {x1 x2 x3 : Int32} (hW : WS c σ) (hI : CI σ h) (hQ : ∀ h', CI (o_set σ x1 x2 x3).2 h' → LoF h h' → Q (o_set σ x1 x2 x3).1 h') : f_X7_set x1 x2 x3 h Q := by
  have hs := hW.small
  unfold f_X7_set
  unfold o_set at hQ
  refine c_hasS hI.1 hs.1 (fun p => br1 ?_) (fun p => br0 ?_)
  · refine c_in (a := 0) (b := 2) rfl rfl (fun p2 => br1 ?_) (fun p2 => br0 ?_)
    · have e1 := isS_lt (σ := σ) p
      have fin : ∀ k, k < 3 → x2 = nI k → InR x3 0 (grS x2) → ∀ h', h' = si h (2 + 2 + nt x1) k x3 → ∀ r, r = gi h (2 + 2 + nt x1) k → Q r h' := by
        intro k hk ek p3 h' e' r er
        rw [if_pos ⟨p, p2, p3⟩] at hQ
        have ek' : nt x2 = k := by rw [ek, nt_of k (by omega)]
        rw [ek'] at hQ
        have e3 := nt_nI p3.1
        have C := hc_setS hI.1 hs.1 hs.2.1 (s := nt x1) (k := k) (x := nt x3) e1.2 hk
        rw [← e3, show 1 + 3 + nt x1 = 2 + 2 + nt x1 by omega, ← e'] at C
        have f : FrI (cellsC 1) h h' := by rw [e']; exact FrI.si ⟨by omega, by omega⟩
        have g : gi h (2 + 2 + nt x1) k = nI (vs (sV σ) (nt x1) k) := by
          rw [show 2 + 2 + nt x1 = 1 + 3 + nt x1 by omega]; exact hI.1.2.1 _ e1.2 k hk
        rw [er, g]
        exact hQ h' (hI.world hW C f) (f.lo (by intro a k; simp only [cellsC]; omega))
      have bad : ¬ InR x3 0 (grS x2) → f_X7_found (-1000000001 : Int32) h (fun v20 h19 => Q v20 h19) := by
        intro q
        rw [if_neg (fun z => q z.2.2)] at hQ
        exact c_found (by omega) hI hQ fnd0 hs
      have ix1 : ix x1 = nt x1 := by
        have := ix_nI (k := nt x1) (by omega)
        rw [← e1.1] at this; exact this
      have vp1 : vp_in x1 6 := by rw [e1.1]; exact vp_in_nI (by omega) (by decide)
      unfold f_X3_greatest
      rcases x012 p2 with z | z | z
      · refine br_t z ?_
        refine c_in (a := 0) (b := 3) rfl rfl (fun p3 => br1 ⟨vp1, ?_⟩) (fun p3 => br0 (bad (by rw [show grS x2 = 3 by unfold grS; exact if_pos z]; exact p3)))
        unfold f_X3_replace
        rw [ix1]
        refine br_t z ?_
        intro r er h' e'
        exact fin 0 (by omega) z (by rw [show grS x2 = 3 by unfold grS; exact if_pos z]; exact p3) h' e' r er
      · have n0 : ¬ x2 = 0 := by rw [z]; decide +kernel
        have z1 : x2 = 1 := z
        have gz : grS x2 = 999 := by unfold grS; rw [if_neg n0, if_pos z1]
        refine br_f n0 (br_t z1 ?_)
        refine c_in (a := 0) (b := 999) rfl rfl (fun p3 => br1 ⟨vp1, ?_⟩) (fun p3 => br0 (bad (by rw [gz]; exact p3)))
        unfold f_X3_replace
        rw [ix1]
        refine br_f n0 (br_t z1 ?_)
        intro r er h' e'
        exact fin 1 (by omega) z (by rw [gz]; exact p3) h' e' r er
      · have n0 : ¬ x2 = 0 := by rw [z]; decide +kernel
        have n1 : ¬ x2 = 1 := by rw [z]; decide +kernel
        have gz : grS x2 = 99 := by unfold grS; rw [if_neg n0, if_neg n1]
        refine br_f n0 (br_f n1 ?_)
        refine c_in (a := 0) (b := 99) rfl rfl (fun p3 => br1 ⟨vp1, ?_⟩) (fun p3 => br0 (bad (by rw [gz]; exact p3)))
        unfold f_X3_replace
        rw [ix1]
        refine br_f n0 (br_f n1 ?_)
        intro r er h' e'
        exact fin 2 (by omega) z (by rw [gz]; exact p3) h' e' r er
    · rw [if_neg (fun z => p2 z.2.1)] at hQ
      exact c_found (by omega) hI hQ fnd0 hs
  · rw [if_neg (fun z => p z.1)] at hQ
    exact c_found (by omega) hI hQ fnd0 hs
theorem m_set {x1 x2 x3 : Int32} (hW : WS c σ) (hI : MI σ h) (hQ : ∀ h', MI (o_set σ x1 x2 x3).2 h' → HiF h h' → Q (o_set σ x1 x2 x3).1 h') : f_X8_set x1 x2 x3 h Q := by
  have hs := hW.small
  unfold f_X8_set
  unfold o_set at hQ
  refine m_isS hI.1 hs.1 (fun p => br1 ?_) (fun p => br0 ?_)
  · refine m_in (a := 0) (b := 2) rfl rfl (fun p2 => br1 ?_) (fun p2 => br0 ?_)
    · have e1 := isS_lt (σ := σ) p
      have fin : ∀ k, k < 3 → x2 = nI k → InR x3 0 (grS x2) → ∀ h', h' = si h (119 + k) (nt x1) x3 → ∀ r, r = gi h (119 + k) (nt x1) → Q r h' := by
        intro k hk ek p3 h' e' r er
        rw [if_pos ⟨p, p2, p3⟩] at hQ
        have ek' : nt x2 = k := by rw [ek, nt_of k (by omega)]
        rw [ek'] at hQ
        have e3 := nt_nI p3.1
        have C := hm_setS hI.1 (s := nt x1) (k := k) (x := nt x3) hk
        rw [← e3, ← e'] at C
        have f : FrI cellsM h h' := by rw [e']; exact FrI.si (by simp only [cellsM]; omega)
        have g : gi h (119 + k) (nt x1) = nI (vs (sV σ) (nt x1) k) := by
          have t := hI.1.2.1 _ e1.2
          have : k = 0 ∨ k = 1 ∨ k = 2 := by omega
          rcases this with rfl | rfl | rfl
          · exact t.1
          · exact t.2.1
          · exact t.2.2
        rw [er, g]
        exact hQ h' (hI.world C f) (f.hi (by intro a k; simp only [cellsM]; omega))
      have bad : ¬ InR x3 0 (grS x2) → f_X8_finds (-1000000001 : Int32) h (fun v20 h19 => Q v20 h19) := by
        intro q
        rw [if_neg (fun z => q z.2.2)] at hQ
        exact m_finds (by omega) hI hQ fnd0
      have ix1 : ix x1 = nt x1 := by
        have := ix_nI (k := nt x1) (by omega)
        rw [← e1.1] at this; exact this
      have vp1 : vp_in x1 6 := by rw [e1.1]; exact vp_in_nI (by omega) (by decide)
      rcases x012 p2 with z | z | z
      · have gz : grS x2 = 3 := by unfold grS; exact if_pos z
        refine br_t z ?_
        unfold f_X8_set_J47
        refine m_in (a := 0) (b := 3) rfl rfl (fun p3 => br1 (br_t z ⟨vp1, ?_⟩)) (fun p3 => br0 (bad (by rw [gz]; exact p3)))
        unfold f_X8_set_J93
        rw [ix1]
        refine br_t z ⟨vp1, ?_⟩
        intro h' e'
        exact fin 0 (by omega) z (by rw [gz]; exact p3) h' e' _ rfl
      · have n0 : ¬ x2 = 0 := by rw [z]; decide +kernel
        have z1 : x2 = 1 := z
        have gz : grS x2 = 999 := by unfold grS; rw [if_neg n0, if_pos z1]
        refine br_f n0 (br_t z1 ?_)
        unfold f_X8_set_J47
        refine m_in (a := 0) (b := 999) rfl rfl (fun p3 => br1 (br_f n0 (br_t z1 ⟨vp1, ?_⟩))) (fun p3 => br0 (bad (by rw [gz]; exact p3)))
        unfold f_X8_set_J93
        rw [ix1]
        refine br_f n0 (br_t z1 ⟨vp1, ?_⟩)
        intro h' e'
        exact fin 1 (by omega) z (by rw [gz]; exact p3) h' e' _ rfl
      · have n0 : ¬ x2 = 0 := by rw [z]; decide +kernel
        have n1 : ¬ x2 = 1 := by rw [z]; decide +kernel
        have gz : grS x2 = 99 := by unfold grS; rw [if_neg n0, if_neg n1]
        refine br_f n0 (br_f n1 ?_)
        unfold f_X8_set_J47
        refine m_in (a := 0) (b := 99) rfl rfl (fun p3 => br1 (br_f n0 (br_f n1 ⟨vp1, ?_⟩))) (fun p3 => br0 (bad (by rw [gz]; exact p3)))
        unfold f_X8_set_J93
        rw [ix1]
        refine br_f n0 (br_f n1 ⟨vp1, ?_⟩)
        intro h' e'
        exact fin 2 (by omega) z (by rw [gz]; exact p3) h' e' _ rfl
    · rw [if_neg (fun z => p2 z.2.1)] at hQ
      exact m_finds (by omega) hI hQ fnd0
  · rw [if_neg (fun z => p z.1)] at hQ
    exact m_finds (by omega) hI hQ fnd0
/-- under: by a row of kinds -/
def unR (N : Nat) (T : Nat → Int32) (x2 : Int32) : Nat → Int32 → Int32
  | 0, _ => 0
  | r + 1, x3 => if InR x3 0 ((N : Int) - 1) then (if x3 = x2 then 1 else unR N T x2 r (T (ix x3))) else 0
theorem t_under {a : Nat} {x1 x2 : Int32} (ha : a = 5001 ∨ a = 5002) (hQ : Q (unR (fzN a) (fzT a) x2 (fzN a) x1) h) : f_X7_isUnder a x1 x2 h Q := by
  unfold f_X7_isUnder
  have hN : fzN a < 1000 := by rcases ha with rfl | rfl <;> decide +kernel
  have key : ∀ r x3 i, i + r = fzN a → Q (unR (fzN a) (fzT a) x2 r x3) h → f_X7_isUnder_L5 a x2 Q (r + 1) x3 (nI i) h := by
    intro r
    induction r with
    | zero =>
      intro x3 i hi hq
      unfold f_X7_isUnder_L5
      rw [ofN]
      exact br_le (by omega) (by omega) (fun _ => hq) (fun z => by omega)
    | succ r ih =>
      intro x3 i hi hq
      unfold f_X7_isUnder_L5
      rw [ofN]
      refine br_le (by omega) (by omega) (fun z => by omega) (fun _ => ?_)
      unfold unR at hq
      refine c_in (a := 0) (b := (fzN a : Int) - 1) rfl (nI_pre hN) (fun p => br1 ?_) (fun p => br0 ?_)
      · rw [if_pos p] at hq
        refine ⟨fun z => ?_, fun z => ?_⟩
        · rw [if_pos z] at hq; exact hq
        · rw [if_neg z] at hq
          have e3 := nt_nI p.1
          refine ⟨by rw [e3]; exact vp_in_nI (by unfold nt; omega) (by omega), ?_⟩
          intro x ex y ey
          rw [ex, ey, nI_1]
          exact ih _ (i + 1) (by omega) hq
      · rw [if_neg p] at hq; exact hq
  exact ⟨fzN a + 1, key (fzN a) x1 0 (by omega) hQ⟩
abbrev asP (own kind : Nat) : Prop := kind = 0 ∨ kind = own ∨ (kind = 1 ∧ own = 3) ∨ (kind = 2 ∧ own = 4)
theorem un_l {o k : Nat} (ho : o < 6) (hk : k < 6) : unR (fzN 5001) (fzT 5001) (nI k) (fzN 5001) (nI o) = if asP o k then 1 else 0 := by
  have : ∀ o, o < 6 → ∀ k, k < 6 → unR (fzN 5001) (fzT 5001) (nI k) (fzN 5001) (nI o) = if asP o k then 1 else 0 := by decide +kernel
  exact this o ho k hk
abbrev stP (own kind : Nat) : Prop := kind = 0 ∨ kind = own ∨ (kind = 1 ∧ own = 3)
theorem un_s {o k : Nat} (ho : o < 4) (hk : k < 4) : unR (fzN 5002) (fzT 5002) (nI k) (fzN 5002) (nI o) = if stP o k then 1 else 0 := by
  have : ∀ o, o < 4 → ∀ k, k < 4 → unR (fzN 5002) (fzT 5002) (nI k) (fzN 5002) (nI o) = if stP o k then 1 else 0 := by decide +kernel
  exact this o ho k hk
def o_as (σ : ST) (x1 x2 : Int32) : Int32 × ST := if isL σ x1 ∧ InR x2 0 5 then (if asP (vl (sV σ) (nt x1) 0) (nt x2) then (nI (vl (sV σ) (nt x1) 3), σ) else (fnd 2, uF σ 2)) else (fnd 0, uF σ 0)
theorem WS_as {x1 x2 : Int32} (hW : WS c σ) (hc : c < 512) : WS (c + 1) (o_as σ x1 x2).2 := by
  refine WS_q hW hc ?_
  unfold o_as
  split
  · split
    · exact Or.inl rfl
    · exact Or.inr ⟨2, rfl⟩
  · exact Or.inr ⟨0, rfl⟩
theorem c_as {x1 x2 : Int32} (hW : WS c σ) (hI : CI σ h) (hQ : ∀ h', CI (o_as σ x1 x2).2 h' → LoF h h' → Q (o_as σ x1 x2).1 h') : f_X7_as x1 x2 h Q := by
  have hs := hW.small
  unfold f_X7_as
  unfold o_as at hQ
  refine c_hasL hI.1 hs.2.1 (fun p => br1 ?_) (fun p => br0 ?_)
  · refine c_in (a := 0) (b := 5) rfl rfl (fun p2 => br1 ?_) (fun p2 => br0 ?_)
    · rw [if_pos ⟨p, p2⟩] at hQ
      have e1 := isL_lt (σ := σ) p
      have e2 := nt_nI p2.1
      have l2 : nt x2 < 6 := by unfold nt; omega
      generalize nt x1 = l at *
      generalize nt x2 = k at *
      rw [e1.1, e2, ix_nI (by omega), show 3 + 7 + 2 * l = 1 + 9 + 2 * l by omega, hI.1.2.2.1 l e1.2 0 (by omega)]
      refine ⟨vp_in_nI (by omega) (by decide), ?_⟩
      refine t_under (Or.inl rfl) ?_
      rw [un_l (hW.2.1.1.2.2.1 l e1.2).1 l2]
      by_cases q : asP (vl (sV σ) l 0) k
      · rw [if_pos q] at hQ ⊢
        rw [hI.1.2.2.1 l e1.2 3 (by omega)]
        exact br1 (hQ h hI LoF.rf)
      · rw [if_neg q] at hQ ⊢
        exact br0 (c_found (by omega) hI hQ fnd2 hs)
    · rw [if_neg (fun z => p2 z.2)] at hQ
      exact c_found (by omega) hI hQ fnd0 hs
  · rw [if_neg (fun z => p z.1)] at hQ
    exact c_found (by omega) hI hQ fnd0 hs
theorem m_as {x1 x2 : Int32} (hW : WS c σ) (hI : MI σ h) (hQ : ∀ h', MI (o_as σ x1 x2).2 h' → HiF h h' → Q (o_as σ x1 x2).1 h') : f_X8_as x1 x2 h Q := by
  have hs := hW.small
  have hF := hW.2.1.1
  unfold f_X8_as
  unfold o_as at hQ
  refine m_isL hI.1 hs.2.1 (fun p => br1 ?_) (fun p => br0 ?_)
  · refine m_in (a := 0) (b := 5) rfl rfl (fun p2 => br1 ?_) (fun p2 => br0 ?_)
    · rw [if_pos ⟨p, p2⟩] at hQ
      have e1 := isL_lt (σ := σ) p
      have e2 := nt_nI p2.1
      have l2 : nt x2 < 6 := by unfold nt; omega
      generalize nt x1 = l at *
      generalize nt x2 = k at *
      have k0 := (hF.2.2.1 l e1.2).1
      have yes : asP (vl (sV σ) l 0) k → f_X8_as_J68 (nI l) 1 Q h := by
        intro q
        rw [if_pos q] at hQ
        unfold f_X8_as_J68
        refine br1 ?_
        show f_X8_at (nI l) (nI 3) h _
        rw [m_at hF hI.1 e1.2 (by omega)]
        exact hQ h hI HiF.rf
      have no : ¬ asP (vl (sV σ) l 0) k → f_X8_as_J68 (nI l) 0 Q h := by
        intro q
        rw [if_neg q] at hQ
        unfold f_X8_as_J68
        exact br0 (m_finds (by omega) hI hQ fnd2)
      rw [e1.1, e2]
      show f_X8_at (nI l) (nI 0) h _
      rw [m_at hF hI.1 e1.2 (by omega)]
      have J : k ≠ 0 → k ≠ vl (sV σ) l 0 → ¬ (k = 1 ∧ vl (sV σ) l 0 = 3) → f_X8_as_J53 (nI l) (nI k) (nI (vl (sV σ) l 0)) Q h := by
        intro q1 q2 q3
        unfold f_X8_as_J53
        refine br_eq (b := 2) (by omega) (by omega) (fun z => ?_) (fun z => no (by omega))
        exact br_eq (b := 4) (by omega) (by omega) (fun z2 => yes (by omega)) (fun z2 => no (by omega))
      refine br_eq (b := 0) (by omega) (by omega) (fun z => yes (Or.inl z)) (fun z => ?_)
      refine br_eq (by omega) (by omega) (fun z2 => yes (Or.inr (Or.inl z2))) (fun z2 => ?_)
      refine br_eq (b := 1) (by omega) (by omega) (fun z3 => ?_) (fun z3 => J z z2 (by omega))
      exact br_eq (b := 3) (by omega) (by omega) (fun z4 => yes (by omega)) (fun z4 => J z z2 (by omega))
    · rw [if_neg (fun z => p2 z.2)] at hQ
      exact m_finds (by omega) hI hQ fnd0
  · rw [if_neg (fun z => p z.1)] at hQ
    exact m_finds (by omega) hI hQ fnd0
def o_stands (σ : ST) (x1 x2 : Int32) : Int32 × ST := if isS σ x1 ∧ InR x2 0 3 then (if stP (vs (sV σ) (nt x1) 0) (nt x2) then (nI (vs (sV σ) (nt x1) 2), σ) else (fnd 2, uF σ 2)) else (fnd 0, uF σ 0)
theorem WS_stands {x1 x2 : Int32} (hW : WS c σ) (hc : c < 512) : WS (c + 1) (o_stands σ x1 x2).2 := by
  refine WS_q hW hc ?_
  unfold o_stands
  split
  · split
    · exact Or.inl rfl
    · exact Or.inr ⟨2, rfl⟩
  · exact Or.inr ⟨0, rfl⟩
theorem c_stands {x1 x2 : Int32} (hW : WS c σ) (hI : CI σ h) (hQ : ∀ h', CI (o_stands σ x1 x2).2 h' → LoF h h' → Q (o_stands σ x1 x2).1 h') : f_X7_stands x1 x2 h Q := by
  have hs := hW.small
  unfold f_X7_stands
  unfold o_stands at hQ
  refine c_hasS hI.1 hs.1 (fun p => br1 ?_) (fun p => br0 ?_)
  · refine c_in (a := 0) (b := 3) rfl rfl (fun p2 => br1 ?_) (fun p2 => br0 ?_)
    · rw [if_pos ⟨p, p2⟩] at hQ
      have e1 := isS_lt (σ := σ) p
      have e2 := nt_nI p2.1
      have l2 : nt x2 < 4 := by unfold nt; omega
      generalize nt x1 = l at *
      generalize nt x2 = k at *
      rw [e1.1, e2, ix_nI (by omega), show 2 + 2 + l = 1 + 3 + l by omega, hI.1.2.1 l e1.2 0 (by omega)]
      refine ⟨vp_in_nI (by omega) (by decide), ?_⟩
      refine t_under (Or.inr rfl) ?_
      rw [un_s (hW.2.1.1.2.1 l e1.2).1 l2]
      by_cases q : stP (vs (sV σ) l 0) k
      · rw [if_pos q] at hQ ⊢
        rw [hI.1.2.1 l e1.2 2 (by omega)]
        exact br1 (hQ h hI LoF.rf)
      · rw [if_neg q] at hQ ⊢
        exact br0 (c_found (by omega) hI hQ fnd2 hs)
    · rw [if_neg (fun z => p2 z.2)] at hQ
      exact c_found (by omega) hI hQ fnd0 hs
  · rw [if_neg (fun z => p z.1)] at hQ
    exact c_found (by omega) hI hQ fnd0 hs
theorem m_stands {x1 x2 : Int32} (hW : WS c σ) (hI : MI σ h) (hQ : ∀ h', MI (o_stands σ x1 x2).2 h' → HiF h h' → Q (o_stands σ x1 x2).1 h') : f_X8_stands x1 x2 h Q := by
  have hs := hW.small
  have hF := hW.2.1.1
  unfold f_X8_stands
  unfold o_stands at hQ
  refine m_isS hI.1 hs.1 (fun p => br1 ?_) (fun p => br0 ?_)
  · refine m_in (a := 0) (b := 3) rfl rfl (fun p2 => br1 ?_) (fun p2 => br0 ?_)
    · rw [if_pos ⟨p, p2⟩] at hQ
      have e1 := isS_lt (σ := σ) p
      have e2 := nt_nI p2.1
      have l2 : nt x2 < 4 := by unfold nt; omega
      generalize nt x1 = l at *
      generalize nt x2 = k at *
      have k0 := (hF.2.1 l e1.2).1
      have m0 := hI.1.2.1 l e1.2
      have vp : vp_in (nI l) 6 := vp_in_nI (by omega) (by decide)
      have yes : stP (vs (sV σ) l 0) k → f_X8_stands_J61 (nI l) 1 Q h := by
        intro q
        rw [if_pos q] at hQ
        unfold f_X8_stands_J61
        rw [ix_nI (by omega), m0.2.2]
        exact br1 ⟨vp, hQ h hI HiF.rf⟩
      have no : ¬ stP (vs (sV σ) l 0) k → f_X8_stands_J61 (nI l) 0 Q h := by
        intro q
        rw [if_neg q] at hQ
        unfold f_X8_stands_J61
        exact br0 (m_finds (by omega) hI hQ fnd2)
      rw [e1.1, e2, ix_nI (by omega), m0.1]
      refine br_eq (b := 0) (by omega) (by omega) (fun z => yes (Or.inl z)) (fun z => ⟨vp, ?_⟩)
      refine br_eq (by omega) (by omega) (fun z2 => yes (Or.inr (Or.inl z2))) (fun z2 => ?_)
      refine br_eq (b := 1) (by omega) (by omega) (fun z3 => ⟨vp, ?_⟩) (fun z3 => no (by omega))
      exact br_eq (b := 3) (by omega) (by omega) (fun z4 => yes (by omega)) (fun z4 => no (by omega))
    · rw [if_neg (fun z => p2 z.2)] at hQ
      exact m_finds (by omega) hI hQ fnd0
  · rw [if_neg (fun z => p z.1)] at hQ
    exact m_finds (by omega) hI hQ fnd0
end Ops
