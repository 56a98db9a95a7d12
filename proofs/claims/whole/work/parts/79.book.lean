/-! book -/
noncomputable def bkR (σ : ST) (s g k : Nat) : Nat → Int64 := fun j => if j < k then nrw (sB σ s) (nI (mosV (sV σ) (R0 (sV σ)) g j)).toInt64 else sN σ s j
noncomputable def bkS (σ : ST) (s g k : Nat) : ST := uS σ s (sB σ s) (sZ σ s) (bkR σ s g k)
section Ops
variable {c : Nat} {σ : ST} {h : HP} {Q : Int32 → HP → Prop}
theorem uS_self {s : Nat} : uS σ s (sB σ s) (sZ σ s) (sN σ s) = σ := by
  unfold uS sB sZ sN
  have : (fun s' => if s' = s then ((σ.2.2.2.2 s).1, (σ.2.2.2.2 s).2.1, (σ.2.2.2.2 s).2.2) else σ.2.2.2.2 s') = σ.2.2.2.2 := by
    funext s'
    by_cases q : s' = s
    · rw [if_pos q, q]
    · rw [if_neg q]
  rw [this]
theorem uS_uS {s b z b' z' : Nat} {r r' : Nat → Int64} : uS (uS σ s b z r) s b' z' r' = uS σ s b' z' r' := by
  unfold uS
  have : (fun s' => if s' = s then (b', z', r') else if s' = s then (b, z, r) else σ.2.2.2.2 s') = (fun s' => if s' = s then (b', z', r') else σ.2.2.2.2 s') := by
    funext s'
    by_cases q : s' = s
    · rw [if_pos q, if_pos q]
    · rw [if_neg q, if_neg q, if_neg q]
  rw [← this]
theorem bk_0 {s g : Nat} : bkS σ s g 0 = σ := by
  have e : bkR σ s g 0 = sN σ s := by funext j; unfold bkR; rw [if_neg (by omega)]
  unfold bkS
  rw [e, uS_self]
theorem bk_up {s g k : Nat} : uS (bkS σ s g k) s (sB (bkS σ s g k) s) (sZ (bkS σ s g k) s) (upL (sN (bkS σ s g k) s) k (nrw (sB σ s) (nI (mosV (sV σ) (R0 (sV σ)) g k)).toInt64)) = bkS σ s g (k + 1) := by
  unfold bkS
  rw [uS_uS, sB_uS, sZ_uS, sN_uS, if_pos rfl, if_pos rfl, if_pos rfl]
  have e : upL (bkR σ s g k) k (nrw (sB σ s) (nI (mosV (sV σ) (R0 (sV σ)) g k)).toInt64) = bkR σ s g (k + 1) := by
    funext j
    unfold upL bkR
    by_cases q : j = k
    · rw [if_pos q, q, if_pos (by omega)]
    · by_cases q2 : j < k
      · rw [if_neg q, if_pos q2, if_pos (by omega)]
      · rw [if_neg q, if_neg q2, if_neg (by omega)]
  rw [e]
noncomputable def o_book (σ : ST) (x1 x2 : Int32) : Int32 × ST := by
  classical exact if isH σ x1 then (if isS σ x2 then (nI (min (sZ σ (nt x1)) 25), bkS σ (nt x1) (nt x2) (min (sZ σ (nt x1)) 25)) else (fnd 0, uF σ 0)) else (fnd (hF5 σ x1), uF σ (hF5 σ x1))
theorem WS_bk {s g k : Nat} (hW : WS c σ) (hc : c < 512) (hs : s < 4) : WS (c + 1) (bkS σ s g k) := by
  have w := hW.2.2.2.2.2 s hs
  exact WS_S hW hc w.1 w.2.1 w.2.2
theorem WS_book {x1 x2 : Int32} (hW : WS c σ) (hc : c < 512) : WS (c + 1) (o_book σ x1 x2).2 := by
  unfold o_book
  split
  · rename_i p
    split
    · exact WS_bk hW hc (sh_lt p.1).2
    · exact WS_F hW hc
  · exact WS_F hW hc
theorem c_book {x1 x2 : Int32} (hW : WS c σ) (hc : c < 512) (hI : CI σ h) (hQ : ∀ h', CI (o_book σ x1 x2).2 h' → LoF h h' → Q (o_book σ x1 x2).1 h') : f_X7_book x1 x2 h Q := by
  have hs := hW.small
  have hF := hW.2.1.1
  unfold f_X7_book
  unfold o_book at hQ
  refine c_sheetU hW hI (fun p => ?_) (fun p => ?_)
  · rw [if_pos p] at hQ
    have e := sh_lt p.1
    have w := hW.2.2.2.2.2 (nt x1) e.2
    have hb := b4 hW e.2
    refine c_hasS hI.1 hs.1 (fun p2 => br1 ?_) (fun p2 => br0 ?_)
    · rw [if_pos p2] at hQ
      have e2 := isS_lt (σ := σ) p2
      generalize nt x1 = s at *
      generalize nt x2 = g at *
      have I := hI.2.2.2.2 s e.2
      rw [e.1, ix_nI (by omega), show 107 + 2 + 2 * s = 109 + 2 * s by omega, I.2.1]
      refine ⟨vp_in_nI e.2 (by decide), ?_⟩
      intro x5 e5
      have e5' : x5 = nI (min (sZ σ s) 25) := by
        rw [e5]
        by_cases z : 25 < sZ σ s
        · have zz : (25 : Int32) < nI (sZ σ s) := (nI_ltI (a := 25) (by omega) (by omega)).mpr z
          rw [if_pos zz, show min (sZ σ s) 25 = 25 by omega]; rfl
        · have zz : ¬ (25 : Int32) < nI (sZ σ s) := fun q => z ((nI_ltI (a := 25) (by omega) (by omega)).mp q)
          rw [if_neg zz, show min (sZ σ s) 25 = sZ σ s by omega]
      rw [e5', e2.1]
      have hm : min (sZ σ s) 25 ≤ 25 := by omega
      generalize min (sZ σ s) 25 = M at *
      refine c_open hF hI.1 (Or.inl rfl) (fun h1 x1 a1 t1 f1 o1 => ?_)
      have key : ∀ r k, k + r = M → ∀ A (V : Nat) τ en lf h2, ((k ≤ 24 ∧ RDY (sV σ) (R0 (sV σ)) g k A τ en lf h2) ∨ k = 25) → gi h2 88 4 = nI k → ex (NP A en lf) (fP lf) 150 = (V : Int) → gi h2 88 5 = nI (sm (fun i => cmV (sV σ) g i) k + V) → NX 1 (sV σ) g (-1) 0 h2 → CI (bkS σ s g k) h2 → LoF h h2 → f_X7_book_L69 (109 + 2 * s) (nI M) Q (r + 1) (nI k) h2 := by
        intro r
        induction r with
        | zero =>
          intro k hk A V τ en lf h2 k1 k2 k3 k4 k5 k6 k7
          unfold f_X7_book_L69
          refine br_le (by omega) (by omega) (fun _ => ?_) (fun z => by omega)
          refine hQ h2 ?_ k7
          rw [show M = k by omega]; exact k6
        | succ r ih =>
          intro k hk A V τ en lf h2 k1 k2 k3 k4 k5 k6 k7
          unfold f_X7_book_L69
          refine br_le (by omega) (by omega) (fun z => by omega) (fun _ => ?_)
          rcases k1 with ⟨_, k1⟩ | k1
          · refine c_flowBehind (n := k) hF e2.2 (by omega) (Nat.le_refl _) (by omega) k5 k1 k2 k3 k4 (fun A' V' σ' en' lf' lev h3 d f3 => ?_)
            have em := d.mos hF (by omega)
            have fc : FrC h2 h3 := f3.c (by intro a k; simp only [cellsN]; omega)
            have C3 : CI (bkS σ s g k) h3 := k6.junk (WS_bk hW hc e.2) fc
            have n5 : NX 1 (sV σ) g (-1) 0 h3 := k5.frame hF.1.2.1 hF.1.2.2 f3 (by intro a k; simp only [cellsN]; omega)
            have I3 := C3.2.2.2.2 s e.2
            have eB : sB (bkS σ s g k) s = sB σ s := by unfold bkS; rw [sB_uS, if_pos rfl]
            rw [eB] at I3
            rw [em]
            refine c_put I3.1 hb (by omega) (fun h4 e4 => ?_)
            have C4 := C3.put (WS_bk hW hc e.2) e.2 (by omega) e4
            rw [bk_up] at C4
            have l4 : LoF h3 h4 := by rw [e4]; exact LoF.sl (by omega)
            intro y ey
            rw [ey, nI_1]
            rw [← em] at e4
            have t1 : gi h4 88 4 = nI (k + 1) := by rw [e4]; exact d.2.2.1
            have t2 : gi h4 88 5 = nI (sm (fun i => cmV (sV σ) g i) (k + 1) + V') := by rw [e4]; exact d.2.2.2.1
            have t3 : NX 1 (sV σ) g (-1) 0 h4 := by rw [e4]; exact n5
            refine ih (k + 1) (by omega) A' V' σ' en' lf' h4 ?_ t1 d.2.2.2.2.1 t2 t3 C4 ((k7.trans fc.lo).trans l4)
            by_cases z2 : k + 1 ≤ 24
            · have rd : RDY (sV σ) (R0 (sV σ)) g (k + 1) A' σ' en' lf' h3 := d.1.next hF z2 d.2.1
              exact Or.inl ⟨z2, by rw [e4]; exact rd⟩
            · exact Or.inr (by omega)
          · omega
      have C0 : CI (bkS σ s g 0) h1 := by rw [bk_0]; exact hI.junk hW o1.c
      exact ⟨_, key M 0 (by omega) 0 0 _ _ _ h1 (Or.inl ⟨by omega, rdy0 hF a1⟩) t1 rfl f1 x1 C0 o1.c.lo⟩
    · rw [if_neg p2] at hQ
      exact c_found (by omega) hI hQ fnd0 hs
  · rw [if_neg p] at hQ
    exact c_found hF5_lt hI hQ rfl hs
theorem m_book {x1 x2 : Int32} (hW : WS c σ) (hI : MI σ h) (hQ : ∀ h', MI (o_book σ x1 x2).2 h' → HiF h h' → Q (o_book σ x1 x2).1 h') : f_X8_book x1 x2 h Q := by
  have hs := hW.small
  have hF := hW.2.1.1
  have h6 := hF.1
  unfold f_X8_book
  unfold o_book at hQ
  refine m_sheetU hW hI (fun p => ?_) (fun p => ?_)
  · rw [if_pos p] at hQ
    have e := sh_lt p.1
    have w := hW.2.2.2.2.2 (nt x1) e.2
    have hb := b4 hW e.2
    refine m_isS hI.1 hs.1 (fun p2 => br1 ?_) (fun p2 => br0 ?_)
    · rw [if_pos p2] at hQ
      have e2 := isS_lt (σ := σ) p2
      generalize nt x1 = s at *
      generalize nt x2 = g at *
      rw [e.1, e2.1]
      refine m_layOut (ht := 0) hF hI.1 (by omega) (fun h1 r1 f1 => ?_)
      have hm : min (sZ σ s) 25 ≤ 25 := by omega
      obtain ⟨M, eM⟩ : ∃ M, M = min (sZ σ s) 25 := ⟨_, rfl⟩
      rw [← eM] at hQ
      have key : ∀ r k, k + r = M → ∀ f (V : Nat) h2, (k ≤ 24 → Flw (tn (sV σ) (R0 (sV σ)) g k) 151 150 f ∧ ex (tn (sV σ) (R0 (sV σ)) g k) f 150 = (V : Int)) → fB (R0 (sV σ)) f → RS (sV σ) (R0 (sV σ)) f h2 → MI (bkS σ s g k) h2 → HiF h h2 → f_X8_book_L59 (nI s) (nI g) Q (r + 1) (nI V) (nI k) h2 := by
        intro r
        induction r with
        | zero =>
          intro k hk f V h2 k1 k2 k3 k4 k5
          unfold f_X8_book_L59
          refine ⟨vp_in_nI e.2 (by decide), ?_⟩
          have I := (k4.2.2.2.2 s e.2).2.1
          have eZ : sZ (bkS σ s g k) s = sZ σ s := by unfold bkS; rw [sZ_uS, if_pos rfl]
          rw [eZ] at I
          rw [ix_nI (by omega), I]
          have fin : Q (nI k) h2 := by
            have := hQ h2
            rw [show M = k by omega] at this
            exact this k4 k5
          exact br_le (by omega) (by omega) (fun _ => fin) (fun z => br_lt (a := 24) (by omega) (by omega) (fun _ => fin) (fun z2 => by omega))
        | succ r ih =>
          intro k hk f V h2 k1 k2 k3 k4 k5
          unfold f_X8_book_L59
          refine ⟨vp_in_nI e.2 (by decide), ?_⟩
          have I := (k4.2.2.2.2 s e.2).2.1
          have eZ : sZ (bkS σ s g k) s = sZ σ s := by unfold bkS; rw [sZ_uS, if_pos rfl]
          have eB : sB (bkS σ s g k) s = sB σ s := by unfold bkS; rw [sB_uS, if_pos rfl]
          rw [eZ] at I
          rw [ix_nI (by omega), I]
          refine br_le (by omega) (by omega) (fun z => by omega) (fun _ => br_lt (a := 24) (by omega) (by omega) (fun z => by omega) (fun _ => ?_))
          have k1' := k1 (by omega)
          refine m_brings (V := V) hF e2.2 (by omega) k1'.1 k2 k4.1 k3 k1'.2 (fun x f' σ' h3 a1 a2 a3 a4 a5 a6 a7 a8 => ?_)
          intro x3 e3
          rw [nI_add] at e3
          rw [e3]
          have jm : FrI junkM h2 h3 := a8.jm (by intro a k; simp only [cellsG, cellsB, junkM]; omega)
          have M3 := k4.junk jm
          have I3 := M3.2.2.2.2 s e.2
          rw [eB] at I3
          refine ⟨vp_in_nI e.2 (by decide), ?_⟩
          refine m_ownTill e2.2 h6.2.1 (by omega) a4 ?_
          have sh : Shw (sV σ) (R0 (sV σ)) g k (V + x) f' σ' h3 := ⟨a1, a2, a3, a4, a5, a6, a7⟩
          rw [nI_add, sh.mos hF (by omega), I3.1]
          refine m_narrow hb ?_
          rw [lit 40, nI_mul, nI_add, ix_nI (by omega)]
          refine ⟨vp_in_nI (by omega) (by decide), ?_⟩
          intro h4 e4 y ey
          rw [ey, nI_1 k]
          have M4 := M3.put e.2 (by omega) e4
          rw [bk_up] at M4
          have l4 : HiF h3 h4 := by rw [e4]; exact HiF.sl (by omega)
          have r4 : RS (sV σ) (R0 (sV σ)) f' h4 := by rw [e4]; exact a4
          exact ih (k + 1) (by omega) f' (V + x) h4 (fun _ => ⟨flw_next a1, a3⟩) a2 r4 M4 ((k5.trans (jm_hi jm)).trans l4)
      have j1 : FrI junkM h h1 := f1.jm (by intro a k; simp only [cellsL, junkM]; omega)
      have M0 : MI (bkS σ s g 0) h1 := by rw [bk_0]; exact hI.junk j1
      exact ⟨_, key M 0 (by omega) (fun _ => 0) 0 h1 (fun _ => ⟨flw_zero, ex_zero⟩) (rmB_fB hF) r1.toB M0 (jm_hi j1)⟩
    · rw [if_neg p2] at hQ
      exact m_finds (by omega) hI hQ fnd0
  · rw [if_neg p] at hQ
    exact m_finds hF5_lt hI hQ rfl
end Ops
