/-! lose and widen -/
/-- the least, the first that is -/
def lsR (f : Nat → Nat) : Nat → Nat × Nat
  | 0 => (0, 0)
  | k + 1 => if k = 0 ∨ f k < (lsR f k).2 then (k, f k) else lsR f k
theorem lsR_le {f : Nat → Nat} {b : Nat} : ∀ k, (∀ i, i < k → f i ≤ b) → (lsR f k).2 ≤ b ∧ (lsR f k).1 ≤ k
  | 0, _ => ⟨Nat.zero_le _, Nat.le_refl _⟩
  | k + 1, hf => by
    have := lsR_le k (fun i hi => hf i (by omega))
    have := hf k (by omega)
    unfold lsR
    split
    · exact ⟨by assumption, Nat.le_succ _⟩
    · omega
section Ops
variable {c : Nat} {σ : ST} {h : HP} {Q : Int32 → HP → Prop}
noncomputable def clV (v : WV) (g n l : Nat) : Nat := mosV v (rmB v (nI l) (-1) (-1) 0) g n
noncomputable def o_lose (σ : ST) (x1 x2 : Int32) : Int32 × ST := by
  classical exact if isAsk σ x1 x2 then (if vL (sV σ) = 0 then (fnd 3, uF σ 3) else (nI (lsR (clV (sV σ) (nt x1) (nt x2)) (vL (sV σ))).1, σ)) else (fnd 0, uF σ 0)
theorem WS_lose {x1 x2 : Int32} (hW : WS c σ) (hc : c < 512) : WS (c + 1) (o_lose σ x1 x2).2 := by
  refine WS_q hW hc ?_
  unfold o_lose
  split
  · split
    · exact Or.inr ⟨3, rfl⟩
    · exact Or.inl rfl
  · exact Or.inr ⟨0, rfl⟩
theorem tn_cl {v : WV} {m B g n l : Nat} (hF : WF m B v) (hl : l < vL v) : tn v (rmB v (-1) (-1) (nI l) 0) g n = tn v (rmB v (nI l) (-1) (-1) 0) g n :=
  tn_congr rfl rfl (fun _ _ _ _ => rfl) (fun _ _ _ _ => rfl) (fun _ => rfl) (fun _ => rfl) (fun _ => rfl) (fun l' hl' i hi => (rm_cl (by have := hF.1; omega) (by have := hF.1; omega)).symm)
theorem c_lose {x1 x2 : Int32} (hW : WS c σ) (hI : CI σ h) (hQ : ∀ h', CI (o_lose σ x1 x2).2 h' → LoF h h' → Q (o_lose σ x1 x2).1 h') : f_X7_lose x1 x2 h Q := by
  have hs := hW.small
  have hF := hW.2.1.1
  unfold f_X7_lose
  unfold o_lose at hQ
  refine c_isAsked hW hI (fun p => br1 ?_) (fun p => br0 ?_)
  · rw [if_pos p] at hQ
    have e1 := isS_lt p.1
    have e2 := ask_n p.2
    generalize nt x1 = g at *
    generalize nt x2 = n at *
    rw [e1.1, e2.1, hI.1.1.2.2.2]
    refine br_eq (b := 0) (by omega) (by omega) (fun z => ?_) (fun z => ?_)
    · rw [if_pos z] at hQ
      exact c_found (by omega) hI hQ fnd3 hs
    · rw [if_neg z] at hQ
      refine c_mostIn hF hI.1 (Or.inl rfl) e1.2 e2.2 (fun A V σ' en lf lev h1 d x f1 => ?_)
      refine c_busyLines hF e2.2 (rmB_fB hF).1 x d ?_
      have dl := d.le hF e1.2 e2.2
      have dmx := d.mx
      have dV := d.flw.2
      have idle : ∀ l, l < vL (sV σ) → ¬ 0 < pkF (sV σ) (fG A σ' lf) l → clV (sV σ) g n l = own (sV σ) g n + V := by
        intro l hl h0
        have q := mx_idle hF hl dmx (pkF_0 h0)
        unfold clV mosV
        rw [mxF_eq (tn_B hF e2.2) ⟨_, _, q.1, q.2.trans dV⟩]
      have key := loop_up (L := fun c l => ∀ h2 b le, FrC h h2 → b < 1000 → ((l = 0 ∧ b = 0 ∧ le = own (sV σ) g n + V) ∨ (0 < l ∧ (b, le) = lsR (clV (sV σ) g n) l)) → le ≤ own (sV σ) g n + V → f_X7_lose_L59 (nI g) (nI n) (btF (fun l => decide (0 < pkF (sV σ) (fG A σ' lf) l)) (vL (sV σ))) Q c (nI le) (nI b) (nI l) h2) (vL (sV σ)) 0 (by omega) (fun c h2 b le k1 k2 k3 k4 => ?_) (fun l c _ hl ih h2 b le k1 k2 k3 k4 => ?_)
      · obtain ⟨c, hc⟩ := key
        exact ⟨c, hc h1 0 _ f1.c (by omega) (Or.inl ⟨rfl, rfl, rfl⟩) (Nat.le_refl _)⟩
      · unfold f_X7_lose_L59
        have hC2 := hI.1.fc k1 (by omega) hs.1 hs.2.1
        rw [hC2.1.2.2.2]
        refine br_le (by omega) (by omega) (fun _ => ?_) (fun z => by omega)
        rcases k3 with k3 | k3
        · omega
        · rw [← k3.2] at hQ
          exact hQ h2 (hI.junk hW k1) k1.lo
      · unfold f_X7_lose_L59
        have hC2 := hI.1.fc k1 (by omega) hs.1 hs.2.1
        rw [hC2.1.2.2.2]
        refine br_le (by omega) (by omega) (fun z => by omega) (fun _ => ?_)
        have bt := bt_test (T := fun l => decide (0 < pkF (sV σ) (fG A σ' lf) l)) (k := vL (sV σ)) hs.2.1 hl
        -- the step, by what is without the line
        have step : clV (sV σ) g n l ≤ own (sV σ) g n + V → ∀ h3, FrC h h3 → (le ≤ clV (sV σ) g n l → f_X7_lose_L59 (nI g) (nI n) (btF (fun l => decide (0 < pkF (sV σ) (fG A σ' lf) l)) (vL (sV σ))) Q c (nI le) (nI b) (nI (l + 1)) h3) ∧ (clV (sV σ) g n l < le → f_X7_lose_L59 (nI g) (nI n) (btF (fun l => decide (0 < pkF (sV σ) (fG A σ' lf) l)) (vL (sV σ))) Q c (nI (clV (sV σ) g n l)) (nI l) (nI (l + 1)) h3) := by
          intro hle h3 f3
          refine ⟨fun z => ih h3 b le f3 k2 (Or.inr ⟨by omega, ?_⟩) k4, fun z => ih h3 l _ f3 (by omega) (Or.inr ⟨by omega, ?_⟩) hle⟩
          · unfold lsR
            rcases k3 with ⟨q1, q2, q3⟩ | ⟨q1, q2⟩
            · rw [if_pos (Or.inl q1), q1, q2]
              rw [q1] at z hle
              have : le = clV (sV σ) g n 0 := by omega
              rw [this]
            · rw [← q2, if_neg (by omega)]
          · unfold lsR
            rcases k3 with ⟨q1, q2, q3⟩ | ⟨q1, q2⟩
            · rw [if_pos (Or.inl q1)]
            · rw [← q2, if_pos (Or.inr z)]
        refine ⟨fun z => ?_, fun z => ?_⟩
        · have nb := bt.mp z
          rw [decide_eq_false_iff_not] at nb
          have e := idle l hl nb
          intro x ex
          rw [ex, nI_1]
          exact (step (by omega) h2 k1).1 (by omega)
        · refine c_mostHeld (ht := 0) hF hC2 e1.2 e2.2 (by omega) (fun A2 V2 σ2 en2 lf2 lev2 h3 d2 x2 f3 => ?_)
          have dm : own (sV σ) g n + V2 = clV (sV σ) g n l := by
            unfold clV mosV
            rw [← tn_cl hF hl, mxF_eq (tn_B hF e2.2) d2.mxv]
          have vle : V2 ≤ V := mos_le hF e2.2 (fun l' hl' i hi => (rm_hl (by omega) (by omega)).1) d2.mxv d.mxv
          rw [dm]
          have st := step (by omega) h3 (k1.trans f3.c)
          refine br_le (by omega) (by omega) (fun z2 => ?_) (fun z2 => ?_)
          · intro x ex
            rw [ex, nI_1]
            exact st.1 z2
          · intro x ex
            rw [ex, nI_1]
            exact st.2 z2
  · rw [if_neg p] at hQ
    exact c_found (by omega) hI hQ fnd0 hs
theorem m_lose {x1 x2 : Int32} (hW : WS c σ) (hI : MI σ h) (hQ : ∀ h', MI (o_lose σ x1 x2).2 h' → HiF h h' → Q (o_lose σ x1 x2).1 h') : f_X8_lose x1 x2 h Q := by
  have hs := hW.small
  have hF := hW.2.1.1
  unfold f_X8_lose
  unfold o_lose at hQ
  refine m_isS hI.1 hs.1 (fun p => br1 ?_) (fun p => br0 ?_)
  · refine m_isAhead (fun p2 => br1 ?_) (fun p2 => br0 ?_)
    · rw [if_pos ⟨p, p2⟩] at hQ
      have e1 := isS_lt (σ := σ) p
      have e2 := ask_n p2
      generalize nt x1 = g at *
      generalize nt x2 = n at *
      rw [e1.1, e2.1, hI.1.1.2.2.2]
      refine br_eq (b := 0) (by omega) (by omega) (fun z => ?_) (fun z => ?_)
      · rw [if_pos z] at hQ
        exact m_finds (by omega) hI hQ fnd3
      · rw [if_neg z] at hQ
        have key := loop_up (L := fun c l => ∀ h2, FrI cellsX h h2 → (lsR (clV (sV σ) g n) l).1 < 1000 → (lsR (clV (sV σ) g n) l).2 ≤ 700000000 → f_X8_lose_L45 (nI g) (nI n) Q c (nI (lsR (clV (sV σ) g n) l).1) (nI (lsR (clV (sV σ) g n) l).2) (nI l) h2) (vL (sV σ)) 0 (by omega) (fun c h2 k1 k2 k3 => ?_) (fun l c _ hl ih h2 k1 k2 k3 => ?_)
        · obtain ⟨c, hc⟩ := key
          exact ⟨c, hc h FrI.rf (by show 0 < 1000; omega) (Nat.zero_le _)⟩
        · unfold f_X8_lose_L45
          have hM1 : HM (sV σ) h2 := hI.1.frame k1 (by intro a k; simp only [cellsM, cellsX]; omega)
          rw [hM1.1.2.2.2]
          exact br_le (by omega) (by omega) (fun _ => hQ h2 (hI.junk (k1.jm cX_jm)) (jm_hi (k1.jm cX_jm))) (fun z => by omega)
        · unfold f_X8_lose_L45
          have hM1 : HM (sV σ) h2 := hI.1.frame k1 (by intro a k; simp only [cellsM, cellsX]; omega)
          rw [hM1.1.2.2.2]
          refine br_le (by omega) (by omega) (fun z => by omega) (fun _ => ?_)
          refine m_mostBy (ht := 0) hF e1.2 e2.2 hM1 (by omega) (fun x f τ h3 sh f3 => ?_)
          have em : x + own (sV σ) g n = clV (sV σ) g n l := sh.mos hF e2.2
          have dl : clV (sV σ) g n l ≤ 700000000 := mosV_le hF e1.2 e2.2 ⟨x, sh.mxv hF e2.2⟩
          rw [em]
          have fr := k1.trans f3
          unfold lsR at ih
          refine br_eq (b := 0) (by omega) (by omega) (fun z2 => ?_) (fun z2 => ?_)
          · unfold f_X8_lose_J79
            intro x ex
            rw [ex, nI_1]
            rw [if_pos (Or.inl z2)] at ih
            exact ih h3 fr (by show l < 1000; omega) dl
          · refine br_le (by omega) (by omega) (fun z3 => ?_) (fun z3 => ?_)
            · intro x ex
              rw [ex, nI_1]
              rw [if_neg (by omega)] at ih
              exact ih h3 fr k2 k3
            · unfold f_X8_lose_J79
              intro x ex
              rw [ex, nI_1]
              rw [if_pos (Or.inr z3)] at ih
              exact ih h3 fr (by show l < 1000; omega) dl
    · rw [if_neg (fun q => p2 q.2)] at hQ
      exact m_finds (by omega) hI hQ fnd0
  · rw [if_neg (fun q => p q.1)] at hQ
    exact m_finds (by omega) hI hQ fnd0
noncomputable def wdV (v : WV) (g n l : Nat) : Nat := mosV v (rmB v (-1) (nI l) (-1) 0) g n
noncomputable def o_widen (σ : ST) (x1 x2 : Int32) : Int32 × ST := by
  classical exact if isAsk σ x1 x2 then ans σ (cd (gtF (wdV (sV σ) (nt x1) (nt x2)) (vL (sV σ)) (0, mosV (sV σ) (R0 (sV σ)) (nt x1) (nt x2))).1) 3 else (fnd 0, uF σ 0)
theorem WS_widen {x1 x2 : Int32} (hW : WS c σ) (hc : c < 512) : WS (c + 1) (o_widen σ x1 x2).2 := by
  refine WS_q hW hc ?_
  unfold o_widen
  split
  · exact ans_q
  · exact Or.inr ⟨0, rfl⟩
theorem gtF_ge {f : Nat → Nat} {p : Nat × Nat} : ∀ k, p.2 ≤ (gtF f k p).2
  | 0 => Nat.le_refl _
  | k + 1 => by
    have := gtF_ge (f := f) (p := p) k
    unfold gtF
    split
    · show p.2 ≤ f k; omega
    · exact this
theorem c_mostWidened {l g n : Nat} {v : WV} {B : Nat} (hF : WF 99 B v) (hC : HC 1 v h) (hl : l < vL v) (hg : g < vS v) (hn : n ≤ 24)
    (hQ : ∀ h', FrC h h' → wdV v g n l ≤ 700000000 → Q (nI (wdV v g n l)) h') : f_X7_mostWidened (nI l) (nI g) (nI n) h Q := by
  have h6 := hF.1
  unfold f_X7_mostWidened
  refine c_become hF hC (Or.inr (by omega)) (fun h1 hC1 f1 => ?_)
  have hll := hF.2.2.1 l hl
  rw [ix_nI (by omega), show 61 + 7 + 2 * l = 59 + 9 + 2 * l by omega, hC1.2.2.1 l hl 3 (by omega), nI_1]
  refine ⟨vp_in_nI (by omega) (by decide), ?_⟩
  intro h3 e3
  have C3 := hc_setL hC1 h6.2.1 h6.2.2 (l := l) (k := 3) (x := vl v l 3 + 1) hl (by omega)
  rw [← e3] at C3
  have g6 : gi h3 (59 + 9 + 2 * l) 6 = nI (vl v l 6) := by
    have := C3.2.2.1 l hl 6 (by omega)
    rw [vl_setL, if_neg (by omega)] at this
    exact this
  rw [g6, nI_1]
  refine ⟨vp_in_nI (by omega) (by decide), ?_⟩
  intro h5 e5
  have C5 := hc_setL C3 h6.2.1 h6.2.2 (l := l) (k := 6) (x := vl v l 6 + 1) hl (by omega)
  rw [← e5] at C5
  have f3 : FrI (cellsC 59) h1 h3 := by rw [e3]; exact FrI.si ⟨by omega, by omega⟩
  have f5 : FrI (cellsC 59) h3 h5 := by rw [e5]; exact FrI.si ⟨by omega, by omega⟩
  have fr : FrC h h5 := ((f1.trans f3).trans f5).c (by intro a k; simp only [cellsC]; omega)
  have FW := WF_wid (l := l) hF
  refine c_mostIn FW C5 (Or.inr rfl) hg hn (fun A V σ' en lf lev h' d x f => ?_)
  have dm : own (widV v l) g n + V = wdV v g n l := by
    unfold wdV mosV
    rw [← tn_wid hF hl, mxF_eq (tn_B FW hn) d.mxv, own_wid]
  have dl := d.le FW hg hn
  rw [dm] at dl ⊢
  exact hQ h' (fr.trans f.c) dl
theorem c_widen {x1 x2 : Int32} (hW : WS c σ) (hI : CI σ h) (hQ : ∀ h', CI (o_widen σ x1 x2).2 h' → LoF h h' → Q (o_widen σ x1 x2).1 h') : f_X7_widen x1 x2 h Q := by
  have hs := hW.small
  have hF := hW.2.1.1
  unfold f_X7_widen
  unfold o_widen at hQ
  refine c_isAsked hW hI (fun p => br1 ?_) (fun p => br0 ?_)
  · rw [if_pos p] at hQ
    have e1 := isS_lt p.1
    have e2 := ask_n p.2
    generalize nt x1 = g at *
    generalize nt x2 = n at *
    rw [e1.1, e2.1]
    refine c_mostIn hF hI.1 (Or.inl rfl) e1.2 e2.2 (fun A V σ' en lf lev h1 d x f1 => ?_)
    have dm : own (sV σ) g n + V = mosV (sV σ) (R0 (sV σ)) g n := d.mos hF e2.2
    have dl := d.le hF e1.2 e2.2
    rw [dm] at dl ⊢
    refine c_searchNear d.1.1 (d.lb hF (rmB_fB hF).1) (fun nr h2 a1 a2 a3 a4 a5 => ?_)
    have x2 := x.frame hs.1 hs.2.1 a5 (by intro a k; simp only [cellsS]; omega)
    have d2 := d.frame a5
    refine c_stationsNear hF x2 e1.2 e2.2 d2.2.2.1 a4 a3 ?_
    have fr2 := (f1.trans (a5.o (by intro a k; simp only [cellsS, cellsO]; omega))).c
    obtain ⟨ff, mx, _⟩ := near_nrV d a1 a2
    have far : ∀ l, l < vL (sV σ) → (∀ k, k < n + 1 → nrB nr (nd g (vl (sV σ) l 1) k) = false) → wdV (sV σ) g n l = mosV (sV σ) (R0 (sV σ)) g n := by
      intro l hl h0
      have q := mx_far hF hl e2.2 mx (fun i hi => h0 i (by omega))
      have eV : ex (tn (sV σ) (R0 (sV σ)) g n) ff 150 = (V : Int) := by
        rw [mx_eq (tn_B hF e2.2) (by omega) (by omega) (by omega) mx d.mx]; exact d.flw.2
      unfold wdV
      rw [← dm]
      unfold mosV
      rw [mxF_eq (tn_B hF e2.2) ⟨_, _, q.1, q.2.trans eV⟩]
    have key := loop_up (L := fun c l => ∀ h3, FrC h h3 → (gtF (wdV (sV σ) g n) l (0, mosV (sV σ) (R0 (sV σ)) g n)).2 ≤ 700000000 → f_X7_widen_L49 (nI g) (nI n) (btF (fun s => !decide (∀ k, k < n + 1 → nrB nr (nd g s k) = false)) (vS (sV σ))) (fun x5_18 h19 => (((0 ≤ x5_18) → Q x5_18 h19) ∧ (¬ (0 ≤ x5_18) → f_X7_found (-1000000004 : Int32) h19 (fun v22 h21 => Q v22 h21)))) Q c (nI (gtF (wdV (sV σ) g n) l (0, mosV (sV σ) (R0 (sV σ)) g n)).2) (cd (gtF (wdV (sV σ) g n) l (0, mosV (sV σ) (R0 (sV σ)) g n)).1) (nI l) h3) (vL (sV σ)) 0 (by omega) (fun c h3 k1 k2 => ?_) (fun l c _ hl ih h3 k1 k2 => ?_)
    · obtain ⟨c, hc⟩ := key
      exact ⟨c, hc h2 fr2 dl⟩
    · unfold f_X7_widen_L49
      have hC2 := hI.1.fc k1 (by omega) hs.1 hs.2.1
      rw [hC2.1.2.2.2]
      exact br_le (by omega) (by omega) (fun _ => c_ans hW hI k1 hQ) (fun z => by omega)
    · unfold f_X7_widen_L49
      have hC2 := hI.1.fc k1 (by omega) hs.1 hs.2.1
      have hll := hF.2.2.1 l hl
      rw [hC2.1.2.2.2, ix_nI (by omega), show 3 + 7 + 2 * l = 1 + 9 + 2 * l by omega, hC2.2.2.1 l hl 1 (by omega)]
      refine br_le (by omega) (by omega) (fun z => by omega) (fun _ => ⟨vp_in_nI (by omega) (by decide), ?_⟩)
      have bt := bt_test (T := fun s => !decide (∀ k, k < n + 1 → nrB nr (nd g s k) = false)) (k := vS (sV σ)) (s := vl (sV σ) l 1) (by omega) hll.2.1
      unfold gtF at ih
      have ge := gtF_ge (f := wdV (sV σ) g n) (p := (0, mosV (sV σ) (R0 (sV σ)) g n)) l
      have ge' : mosV (sV σ) (R0 (sV σ)) g n ≤ (gtF (wdV (sV σ) g n) l (0, mosV (sV σ) (R0 (sV σ)) g n)).2 := ge
      refine ⟨fun z => ?_, fun z => ?_⟩
      · have nb : (!decide (∀ k, k < n + 1 → nrB nr (nd g (vl (sV σ) l 1) k) = false)) = false := bt.mp z
        have nb' : ∀ k, k < n + 1 → nrB nr (nd g (vl (sV σ) l 1) k) = false := by simpa using nb
        have e := far l hl nb'
        intro x ex
        rw [ex, nI_1]
        rw [if_neg (by omega)] at ih
        exact ih h3 k1 k2
      · refine c_mostWidened hF hC2 hl e1.2 e2.2 (fun h4 f4 l4 => ?_)
        refine br_le (by omega) (by omega) (fun z2 => ?_) (fun z2 => ?_)
        · intro x ex
          rw [ex, nI_1]
          rw [if_neg (by omega)] at ih
          exact ih h4 (k1.trans f4) k2
        · intro x ex
          rw [ex, nI_1]
          rw [if_pos z2] at ih
          have := ih h4 (k1.trans f4) l4
          rw [← cd_s l]
          exact this
  · rw [if_neg p] at hQ
    exact c_found (by omega) hI hQ fnd0 hs
theorem m_widen {x1 x2 : Int32} (hW : WS c σ) (hI : MI σ h) (hQ : ∀ h', MI (o_widen σ x1 x2).2 h' → HiF h h' → Q (o_widen σ x1 x2).1 h') : f_X8_widen x1 x2 h Q := by
  have hs := hW.small
  have hF := hW.2.1.1
  unfold f_X8_widen
  unfold o_widen at hQ
  refine m_isS hI.1 hs.1 (fun p => br1 ?_) (fun p => br0 ?_)
  · refine m_isAhead (fun p2 => br1 ?_) (fun p2 => br0 ?_)
    · rw [if_pos ⟨p, p2⟩] at hQ
      have e1 := isS_lt (σ := σ) p
      have e2 := ask_n p2
      generalize nt x1 = g at *
      generalize nt x2 = n at *
      rw [e1.1, e2.1]
      refine m_mostOf hF e1.2 e2.2 hI.1 (fun h1 q f1 => ?_)
      obtain ⟨x0, fl0, τ0, sh0⟩ := q
      have dl := mosV_le hF e1.2 e2.2 ⟨x0, sh0.mxv hF e2.2⟩
      have key := loop_up (L := fun c l => ∀ h3, FrI cellsX h h3 → (gtF (wdV (sV σ) g n) l (0, mosV (sV σ) (R0 (sV σ)) g n)).2 ≤ 700000000 → f_X8_widen_L35 (nI g) (nI n) (fun x3_17 h18 => (((0 ≤ x3_17) → Q x3_17 h18) ∧ (¬ (0 ≤ x3_17) → f_X8_finds (-1000000004 : Int32) h18 (fun v21 h20 => Q v21 h20)))) Q c (cd (gtF (wdV (sV σ) g n) l (0, mosV (sV σ) (R0 (sV σ)) g n)).1) (nI (gtF (wdV (sV σ) g n) l (0, mosV (sV σ) (R0 (sV σ)) g n)).2) (nI l) h3) (vL (sV σ)) 0 (by omega) (fun c h3 k1 k2 => ?_) (fun l c _ hl ih h3 k1 k2 => ?_)
      · obtain ⟨c, hc⟩ := key
        exact ⟨c, hc h1 f1 dl⟩
      · unfold f_X8_widen_L35
        have hM1 : HM (sV σ) h3 := hI.1.frame k1 (by intro a k; simp only [cellsM, cellsX]; omega)
        rw [hM1.1.2.2.2]
        exact br_le (by omega) (by omega) (fun _ => m_ans hI (k1.jm cX_jm) hQ) (fun z => by omega)
      · unfold f_X8_widen_L35
        have hM1 : HM (sV σ) h3 := hI.1.frame k1 (by intro a k; simp only [cellsM, cellsX]; omega)
        rw [hM1.1.2.2.2]
        refine br_le (by omega) (by omega) (fun z => by omega) (fun _ => ?_)
        refine m_mostBy (ht := 0) hF e1.2 e2.2 hM1 (by omega) (fun x f τ h4 sh f4 => ?_)
        have em : x + own (sV σ) g n = wdV (sV σ) g n l := sh.mos hF e2.2
        have dl4 : wdV (sV σ) g n l ≤ 700000000 := mosV_le hF e1.2 e2.2 ⟨x, sh.mxv hF e2.2⟩
        rw [em]
        unfold gtF at ih
        refine br_le (by omega) (by omega) (fun z2 => ?_) (fun z2 => ?_)
        · intro x ex
          rw [ex, nI_1]
          rw [if_neg (by omega)] at ih
          exact ih h4 (k1.trans f4) k2
        · intro x ex
          rw [ex, nI_1]
          rw [if_pos z2] at ih
          have := ih h4 (k1.trans f4) dl4
          rw [← cd_s l]
          exact this
    · rw [if_neg (fun q => p2 q.2)] at hQ
      exact m_finds (by omega) hI hQ fnd0
  · rw [if_neg (fun q => p q.1)] at hQ
    exact m_finds (by omega) hI hQ fnd0
end Ops
