/-! most, quick, all, near -/
def FrC (h h' : HP) : Prop := (∀ a k, ¬ (59 ≤ a ∧ a ≤ 104) → gi h' a k = gi h a k) ∧ ∀ a k, gl h' a k = gl h a k
theorem FrO.c {h h' : HP} (f : FrO h h') : FrC h h' := ⟨fun a k n => f.1 a k (fun q => n (by simp only [cellsO] at q; omega)), f.2.1⟩
theorem FrI.c {P : Nat → Nat → Prop} {h h' : HP} (f : FrI P h h') (hp : ∀ a k, P a k → 59 ≤ a ∧ a ≤ 104) : FrC h h' := ⟨fun a k n => f.1 a k (fun q => n (hp a k q)), f.2.1⟩
theorem FrC.trans {h h1 h2 : HP} (a : FrC h h1) (b : FrC h1 h2) : FrC h h2 := ⟨fun x k n => (b.1 x k n).trans (a.1 x k n), fun x k => (b.2 x k).trans (a.2 x k)⟩
theorem FrC.rf {h : HP} : FrC h h := ⟨fun _ _ _ => rfl, fun _ _ => rfl⟩
theorem FrC.lo {h h' : HP} (f : FrC h h') : LoF h h' := ⟨fun a k n => f.1 a k (by omega), fun a k _ => f.2 a k⟩
theorem HC.fc {w : Nat} {v : WV} {h h' : HP} (hC : HC w v h) (f : FrC h h') (hw : w + 29 ≤ 59) (hS : vS v ≤ 6) (hL : vL v ≤ 10) : HC w v h' := by
  obtain ⟨⟨a1, a2, a3, a4⟩, b, c, d⟩ := hC
  refine ⟨⟨?_, ?_, ?_, ?_⟩, fun s hs k hk => ?_, fun l hl k hk => ?_, fun l hl k hk => ?_⟩
  · rw [f.1 _ _ (by omega)]; exact a1
  · rw [f.1 _ _ (by omega)]; exact a2
  · rw [f.1 _ _ (by omega)]; exact a3
  · rw [f.1 _ _ (by omega)]; exact a4
  · rw [f.1 _ _ (by omega)]; exact b s hs k hk
  · rw [f.1 _ _ (by omega)]; exact c l hl k hk
  · rw [f.1 _ _ (by omega)]; exact d l hl k hk
theorem CI.junk {c : Nat} {σ : ST} {h h' : HP} (hI : CI σ h) (hW : WS c σ) (f : FrC h h') : CI σ h' := by
  obtain ⟨a, ⟨b1, b2⟩, c', ⟨d1, d2⟩, e⟩ := hI
  have hs := hW.small
  refine ⟨a.fc f (by omega) hs.1 hs.2.1, ⟨by rw [f.1 _ _ (by omega)]; exact b1, fun k1 => (b2 k1).fc f (by omega) (hs.2.2 k1).1 (hs.2.2 k1).2⟩, fun k hk => by rw [f.1 _ _ (by omega)]; exact c' k hk, ⟨by rw [f.1 _ _ (by omega)]; exact d1, fun i hi => by rw [f.1 _ _ (by omega)]; exact d2 i hi⟩, fun s hs => ?_⟩
  rw [f.1 _ _ (by omega), f.1 _ _ (by omega)]
  exact ⟨(e s hs).1, (e s hs).2.1, fun i hi => by rw [f.2]; exact (e s hs).2.2 i hi⟩
abbrev junkM : Nat → Nat → Prop := fun a k => (125 ≤ a ∧ a ≤ 137) ∨ a = 145 ∨ (a = 117 ∧ k ≠ 1 ∧ k ≠ 2 ∧ k ≠ 3 ∧ k ≠ 7 ∧ k ≠ 26 ∧ k ≠ 39)
theorem MI.junk {σ : ST} {h h' : HP} (hI : MI σ h) (f : FrI junkM h h') : MI σ h' := by
  obtain ⟨a, ⟨b1, b2⟩, c', ⟨d1, d2⟩, e⟩ := hI
  refine ⟨a.frame f (by intro a k; simp only [cellsM, junkM]; omega), ⟨by rw [f.1 _ _ (by simp only [junkM]; omega)]; exact b1, fun q => (b2 q).frame f (by intro k; simp only [junkM]; omega)⟩, fun j hj => by rw [f.1 _ _ (by simp only [junkM]; omega)]; exact c' j hj, ⟨by rw [f.1 _ _ (by simp only [junkM]; omega)]; exact d1, fun i hi => by rw [f.1 _ _ (by simp only [junkM]; omega)]; exact d2 i hi⟩, fun s hs => ?_⟩
  rw [f.1 _ _ (by simp only [junkM]; omega), f.1 _ _ (by simp only [junkM]; omega)]
  exact ⟨(e s hs).1, (e s hs).2.1, fun i hi => by rw [f.2.1]; exact (e s hs).2.2 i hi⟩
theorem FrI.jm {P : Nat → Nat → Prop} {h h' : HP} (f : FrI P h h') (hp : ∀ a k, P a k → junkM a k) : FrI junkM h h' := f.mono hp
theorem jm_hi {h h' : HP} (f : FrI junkM h h') : HiF h h' := f.hi (by intro a k; simp only [junkM]; omega)
abbrev R0 (v : WV) : Nat → Nat → Nat := rmB v (-1) (-1) (-1) 0
abbrev isAsk (σ : ST) (x1 x2 : Int32) : Prop := isS σ x1 ∧ InR x2 0 24
theorem ask_n {x : Int32} (h : InR x 0 24) : x = nI (nt x) ∧ nt x ≤ 24 := ⟨nt_nI h.1, by unfold nt; omega⟩
section Ops
variable {c : Nat} {σ : ST} {h : HP} {Q : Int32 → HP → Prop}
theorem WS_q {o : Int32 × ST} (hW : WS c σ) (hc : c < 512) (ho : o.2 = σ ∨ ∃ k, o.2 = uF σ k) : WS (c + 1) o.2 := by
  rcases ho with e | ⟨k, e⟩
  · rw [e]; exact hW.up (Nat.le_succ c) hc
  · rw [e]; exact WS_F hW hc
theorem c_isAsked {x1 x2 : Int32} (hW : WS c σ) (hI : CI σ h) (h1 : isAsk σ x1 x2 → Q 1 h) (h0 : ¬ isAsk σ x1 x2 → Q 0 h) : f_X7_isAsked x1 x2 h Q := by
  unfold f_X7_isAsked
  refine c_hasS hI.1 hW.small.1 (fun p => br1 ?_) (fun p => br0 (h0 (fun q => p q.1)))
  exact c_in (a := 0) (b := 24) rfl rfl (fun p2 => br1 (h1 ⟨p, p2⟩)) (fun p2 => br0 (h0 (fun q => p2 q.2)))
theorem m_isAhead {x : Int32} (h1 : InR x 0 24 → Q 1 h) (h0 : ¬ InR x 0 24 → Q 0 h) : f_X8_isAhead x h Q := by
  unfold f_X8_isAhead
  exact m_in (a := 0) (b := 24) rfl rfl h1 h0
noncomputable def o_most (σ : ST) (x1 x2 : Int32) : Int32 × ST := by
  classical exact if isAsk σ x1 x2 then (nI (mosV (sV σ) (R0 (sV σ)) (nt x1) (nt x2)), σ) else (fnd 0, uF σ 0)
theorem WS_most {x1 x2 : Int32} (hW : WS c σ) (hc : c < 512) : WS (c + 1) (o_most σ x1 x2).2 := by
  refine WS_q hW hc ?_
  unfold o_most
  split
  · exact Or.inl rfl
  · exact Or.inr ⟨0, rfl⟩
theorem c_most {x1 x2 : Int32} (hW : WS c σ) (hI : CI σ h) (hQ : ∀ h', CI (o_most σ x1 x2).2 h' → LoF h h' → Q (o_most σ x1 x2).1 h') : f_X7_most x1 x2 h Q := by
  unfold f_X7_most
  unfold o_most at hQ
  refine c_isAsked hW hI (fun p => br1 ?_) (fun p => br0 ?_)
  · rw [if_pos p] at hQ
    have e1 := isS_lt p.1
    have e2 := ask_n p.2
    generalize nt x1 = g at *
    generalize nt x2 = n at *
    rw [e1.1, e2.1]
    refine c_mostIn hW.2.1.1 hI.1 (Or.inl rfl) e1.2 e2.2 (fun A V σ' en lf lev h' d x f => ?_)
    rw [d.mos hW.2.1.1 e2.2]
    exact hQ h' (hI.junk hW f.c) f.c.lo
  · rw [if_neg p] at hQ
    exact c_found (by omega) hI hQ fnd0 hW.small
theorem cX_jm : ∀ a k, cellsX a k → junkM a k := by intro a k; simp only [cellsX, junkM]; omega
theorem Shw.mos {v : WV} {R : Nat → Nat → Nat} {g n m B x : Nat} {f : Nat → Nat} {σ : SB} (hF : WF m B v) (hn : n ≤ 24) (hs : Shw v R g n x f σ h) : x + own v g n = mosV v R g n := by
  unfold mosV
  rw [mxF_eq (tn_B hF hn) (hs.mxv hF hn)]; omega
theorem m_mostOf {v : WV} {g n m B : Nat} (hF : WF m B v) (hg : g < vS v) (hn : n ≤ 24) (hM : HM v h)
    (hQ : ∀ h', (∃ x f σ, Shw v (R0 v) g n x f σ h') → FrI cellsX h h' → Q (nI (mosV v (R0 v) g n)) h') : f_X8_mostOf (nI g) (nI n) h Q := by
  unfold f_X8_mostOf
  refine m_mostBy (ht := 0) hF hg hn hM (by omega) (fun x f σ' h' s1 s2 => ?_)
  rw [s1.mos hF hn]
  exact hQ h' ⟨x, f, σ', s1⟩ s2
theorem m_most {x1 x2 : Int32} (hW : WS c σ) (hI : MI σ h) (hQ : ∀ h', MI (o_most σ x1 x2).2 h' → HiF h h' → Q (o_most σ x1 x2).1 h') : f_X8_most x1 x2 h Q := by
  unfold f_X8_most
  unfold o_most at hQ
  refine m_isS hI.1 hW.small.1 (fun p => br1 ?_) (fun p => br0 ?_)
  · refine m_isAhead (fun p2 => br1 ?_) (fun p2 => br0 ?_)
    · rw [if_pos ⟨p, p2⟩] at hQ
      have e1 := isS_lt (σ := σ) p
      have e2 := ask_n p2
      generalize nt x1 = g at *
      generalize nt x2 = n at *
      rw [e1.1, e2.1]
      refine m_mostOf hW.2.1.1 e1.2 e2.2 hI.1 (fun h' _ f => ?_)
      exact hQ h' (hI.junk (f.jm cX_jm)) (jm_hi (f.jm cX_jm))
    · rw [if_neg (fun q => p2 q.2)] at hQ
      exact m_finds (by omega) hI hQ fnd0
  · rw [if_neg (fun q => p q.1)] at hQ
    exact m_finds (by omega) hI hQ fnd0
/-- how soon: from 25 - r on -/
noncomputable def qkR (v : WV) (g : Nat) (y : Int32) : Nat → Int32
  | 0 => -1
  | r + 1 => if nI (mosV v (R0 v) g (24 - r)) < y then qkR v g y r else nI (24 - r)
theorem c_ticksUntil {v : WV} {m B g : Nat} {y : Int32} (hF : WF m B v) (hC : HC 1 v h) (hg : g < vS v) (hQ : ∀ h', FrO h h' → Q (qkR v g y 25) h') : f_X7_ticksUntil (nI g) y h Q := by
  unfold f_X7_ticksUntil
  refine c_open hF hC (Or.inl rfl) (fun h1 x1 a1 t1 f1 o1 => ?_)
  have key : ∀ r k, k + r = 25 → ∀ A (V : Nat) σ en lf h2, ((k ≤ 24 ∧ RDY v (R0 v) g k A σ en lf h2) ∨ k = 25) → gi h2 88 4 = nI k → ex (NP A en lf) (fP lf) 150 = (V : Int) → gi h2 88 5 = nI (sm (fun i => cmV v g i) k + V) → NX 1 v g (-1) 0 h2 → FrO h h2 → (∀ h', FrO h h' → Q (qkR v g y r) h') → f_X7_ticksUntil_L14 y Q (r + 1) (nI k) h2 := by
    intro r
    induction r with
    | zero =>
      intro k hk A V σ en lf h2 k1 k2 k3 k4 k5 k6 hQ'
      unfold f_X7_ticksUntil_L14
      exact br_lt (a := 24) (by omega) (by omega) (fun _ => hQ' h2 k6) (fun z => by omega)
    | succ r ih =>
      intro k hk A V σ en lf h2 k1 k2 k3 k4 k5 k6 hQ'
      unfold f_X7_ticksUntil_L14
      refine br_lt (a := 24) (by omega) (by omega) (fun z => by omega) (fun _ => ?_)
      rcases k1 with ⟨_, k1⟩ | k1
      · refine c_flowBehind (n := k) hF hg (by omega) (Nat.le_refl _) (by omega) k5 k1 k2 k3 k4 (fun A' V' σ' en' lf' lev h3 d f3 => ?_)
        have fo : FrO h h3 := k6.trans (f3.o (by intro a k; simp only [cellsN, cellsO]; omega))
        have ek : 24 - r = k := by omega
        have em := d.mos hF (by omega)
        rw [em]
        unfold qkR at hQ'
        rw [ek] at hQ'
        refine ⟨fun z => ?_, fun z => ?_⟩
        · rw [if_pos z] at hQ'
          intro x ex
          rw [ex, nI_1]
          refine ih (k + 1) (by omega) A' V' σ' en' lf' h3 ?_ d.2.2.1 d.2.2.2.2.1 d.2.2.2.1 (k5.frame hF.1.2.1 hF.1.2.2 f3 (by intro a k; simp only [cellsN]; omega)) fo hQ'
          by_cases z2 : k + 1 ≤ 24
          · exact Or.inl ⟨z2, d.1.next hF z2 d.2.1⟩
          · exact Or.inr (by omega)
        · rw [if_neg z] at hQ'
          exact hQ' h3 fo
      · omega
  exact ⟨26, key 25 0 (by omega) 0 0 _ _ _ h1 (Or.inl ⟨by omega, rdy0 hF a1⟩) t1 rfl f1 x1 o1 hQ⟩
theorem tnC_mono {v : WV} {R : Nat → Nat → Nat} {g n : Nat} {a : Nat} (ha : a < 550) : nC (tn v R g n) a ≤ nC (tn v R g (n + 1)) a := by
  rcases arc3 ha with ⟨s, i, hs, hi, rfl⟩ | ⟨s, i, hs, hi, rfl⟩ | ⟨l, i, hl, hi, rfl⟩
  · rw [(tn_s (v := v) (R := R) (g := g) (n := n) hs hi).2.2, (tn_s (v := v) (R := R) (g := g) (n := n + 1) hs hi).2.2]
    split
    · rename_i z; rw [if_pos ⟨z.1, z.2.1, by omega⟩]; exact Nat.le_refl _
    · exact Nat.zero_le _
  · rw [(tn_y (v := v) (R := R) (g := g) (n := n) hs hi).2.2, (tn_y (v := v) (R := R) (g := g) (n := n + 1) hs hi).2.2]
    split
    · rename_i z; rw [if_pos ⟨z.1, z.2.1, by omega⟩]; exact Nat.le_refl _
    · exact Nat.zero_le _
  · rw [(tn_l (v := v) (R := R) (g := g) (n := n) (l := l) hi).2.2, (tn_l (v := v) (R := R) (g := g) (n := n + 1) (l := l) hi).2.2]
    split
    · rename_i z; rw [if_pos ⟨z.1, z.2.1, by omega⟩]; exact Nat.le_refl _
    · exact Nat.zero_le _
theorem flw_next {v : WV} {R : Nat → Nat → Nat} {g n : Nat} {f : Nat → Nat} (hf : Flw (tn v R g n) 151 150 f) : Flw (tn v R g (n + 1)) 151 150 f := ⟨fun a ha => Nat.le_trans (hf.1 a ha) (tnC_mono ha), hf.2⟩
theorem m_quickOf {v : WV} {m B g : Nat} {y : Int32} (hF : WF m B v) (hM : HM v h) (hg : g < vS v) (hQ : ∀ h', FrI cellsX h h' → Q (qkR v g y 25) h') : f_X8_quickOf (nI g) y h Q := by
  have h6 := hF.1
  unfold f_X8_quickOf
  refine m_layOut (ht := 0) hF hM (by omega) (fun h1 r1 f1 => ?_)
  have key : ∀ r k, k + r = 25 → ∀ f (V : Nat) h2, (k ≤ 24 → Flw (tn v (R0 v) g k) 151 150 f ∧ ex (tn v (R0 v) g k) f 150 = (V : Int)) → fB (R0 v) f → RS v (R0 v) f h2 → FrI cellsX h h2 → (∀ h', FrI cellsX h h' → Q (qkR v g y r) h') → f_X8_quickOf_L13 (nI g) y Q (r + 1) (nI V) (nI k) h2 := by
    intro r
    induction r with
    | zero =>
      intro k hk f V h2 k1 k2 k3 k4 hQ'
      unfold f_X8_quickOf_L13
      exact br_lt (a := 24) (by omega) (by omega) (fun _ => hQ' h2 k4) (fun z => by omega)
    | succ r ih =>
      intro k hk f V h2 k1 k2 k3 k4 hQ'
      unfold f_X8_quickOf_L13
      refine br_lt (a := 24) (by omega) (by omega) (fun z => by omega) (fun _ => ?_)
      have k1' := k1 (by omega)
      have hM2 : HM v h2 := hM.frame k4 (by intro a k; simp only [cellsM, cellsX]; omega)
      refine m_brings (V := V) hF hg (by omega) k1'.1 k2 hM2 k3 k1'.2 (fun x f' σ' h3 a1 a2 a3 a4 a5 a6 a7 a8 => ?_)
      intro x3 e3
      rw [nI_add] at e3
      rw [e3]
      refine m_ownTill hg h6.2.1 (by omega) a4 ?_
      have fr : FrI cellsX h h3 := k4.trans (a8.mono (by intro a k; simp only [cellsG, cellsB, cellsX]; omega))
      have sh : Shw v (R0 v) g k (V + x) f' σ' h3 := ⟨a1, a2, a3, a4, a5, a6, a7⟩
      rw [nI_add, sh.mos hF (by omega)]
      have ek : 24 - r = k := by omega
      unfold qkR at hQ'
      rw [ek] at hQ'
      refine ⟨fun z => ?_, fun z => ?_⟩
      · rw [if_pos z] at hQ'
        intro x4 e4
        rw [e4, nI_1]
        exact ih (k + 1) (by omega) f' (V + x) h3 (fun _ => ⟨flw_next a1, a3⟩) a2 a4 fr hQ'
      · rw [if_neg z] at hQ'
        exact hQ' h3 fr
  exact ⟨26, key 25 0 (by omega) (fun _ => 0) 0 h1 (fun _ => ⟨flw_zero, ex_zero⟩) (rmB_fB hF) r1.toB (f1.mono (by intro a k; simp only [cellsL, cellsX]; omega)) hQ⟩
theorem qkR_neg {v : WV} {g : Nat} {y : Int32} : ∀ r, r ≤ 25 → (qkR v g y r = -1 ∨ ∃ n, n ≤ 24 ∧ qkR v g y r = nI n)
  | 0, _ => Or.inl rfl
  | r + 1, hr => by
    unfold qkR
    split
    · exact qkR_neg r (by omega)
    · exact Or.inr ⟨24 - r, by omega, rfl⟩
/-- an answer, or a finding where there is none -/
noncomputable def ans (σ : ST) (x : Int32) (k : Nat) : Int32 × ST := if 0 ≤ x then (x, σ) else (fnd k, uF σ k)
theorem ans_q {x : Int32} {k : Nat} : (ans σ x k).2 = σ ∨ ∃ k', (ans σ x k).2 = uF σ k' := by
  unfold ans
  split
  · exact Or.inl rfl
  · exact Or.inr ⟨k, rfl⟩
noncomputable def o_quick (σ : ST) (x1 x2 : Int32) : Int32 × ST := by
  classical exact if isS σ x1 ∧ 0 ≤ x2 then ans σ (qkR (sV σ) (nt x1) x2 25) 3 else (fnd 0, uF σ 0)
theorem WS_quick {x1 x2 : Int32} (hW : WS c σ) (hc : c < 512) : WS (c + 1) (o_quick σ x1 x2).2 := by
  refine WS_q hW hc ?_
  unfold o_quick
  generalize qkR (sV σ) (nt x1) x2 25 = z
  split
  · exact ans_q
  · exact Or.inr ⟨0, rfl⟩
theorem c_ans {x : Int32} {h1 : HP} (hW : WS c σ) (hI : CI σ h) (f : FrC h h1) (hQ : ∀ h', CI (ans σ x 3).2 h' → LoF h h' → Q (ans σ x 3).1 h') : (0 ≤ x → Q x h1) ∧ (¬ 0 ≤ x → f_X7_found (-1000000004 : Int32) h1 (fun v2 h2 => Q v2 h2)) := by
  unfold ans at hQ
  refine ⟨fun z => ?_, fun z => ?_⟩
  · rw [if_pos z] at hQ
    exact hQ h1 (hI.junk hW f) f.lo
  · rw [if_neg z] at hQ
    exact c_found (by omega) (hI.junk hW f) (fun h' a b => hQ h' a (f.lo.trans b)) fnd3 hW.small
theorem m_ans {x : Int32} {h1 : HP} (hI : MI σ h) (f : FrI junkM h h1) (hQ : ∀ h', MI (ans σ x 3).2 h' → HiF h h' → Q (ans σ x 3).1 h') : (0 ≤ x → Q x h1) ∧ (¬ 0 ≤ x → f_X8_finds (-1000000004 : Int32) h1 (fun v2 h2 => Q v2 h2)) := by
  unfold ans at hQ
  refine ⟨fun z => ?_, fun z => ?_⟩
  · rw [if_pos z] at hQ
    exact hQ h1 (hI.junk f) (jm_hi f)
  · rw [if_neg z] at hQ
    exact m_finds (by omega) (hI.junk f) (fun h' a b => hQ h' a ((jm_hi f).trans b)) fnd3
theorem c_quick {x1 x2 : Int32} (hW : WS c σ) (hI : CI σ h) (hQ : ∀ h', CI (o_quick σ x1 x2).2 h' → LoF h h' → Q (o_quick σ x1 x2).1 h') : f_X7_quick x1 x2 h Q := by
  unfold f_X7_quick
  unfold o_quick at hQ
  refine c_hasS hI.1 hW.small.1 (fun p => br1 ?_) (fun p => br0 ?_)
  · refine ⟨fun z => ?_, fun z => ?_⟩
    · rw [if_pos ⟨p, z⟩] at hQ
      have e1 := isS_lt (σ := σ) p
      generalize nt x1 = g at *
      rw [e1.1]
      refine c_ticksUntil hW.2.1.1 hI.1 e1.2 (fun h' f => ?_)
      exact c_ans hW hI f.c hQ
    · rw [if_neg (fun q => z q.2)] at hQ
      exact c_found (by omega) hI hQ fnd0 hW.small
  · rw [if_neg (fun q => p q.1)] at hQ
    exact c_found (by omega) hI hQ fnd0 hW.small
theorem m_quick {x1 x2 : Int32} (hW : WS c σ) (hI : MI σ h) (hQ : ∀ h', MI (o_quick σ x1 x2).2 h' → HiF h h' → Q (o_quick σ x1 x2).1 h') : f_X8_quick x1 x2 h Q := by
  unfold f_X8_quick
  unfold o_quick at hQ
  refine m_isS hI.1 hW.small.1 (fun p => br1 ?_) (fun p => br0 ?_)
  · refine ⟨fun z => ?_, fun z => ?_⟩
    · rw [if_pos ⟨p, z⟩] at hQ
      have e1 := isS_lt (σ := σ) p
      generalize nt x1 = g at *
      rw [e1.1]
      refine m_quickOf hW.2.1.1 hI.1 e1.2 (fun h' f => ?_)
      exact m_ans hI (f.jm cX_jm) hQ
    · rw [if_neg (fun q => z q.2)] at hQ
      exact m_finds (by omega) hI hQ fnd0
  · rw [if_neg (fun q => p q.1)] at hQ
    exact m_finds (by omega) hI hQ fnd0
noncomputable def o_all (σ : ST) (x1 : Int32) : Int32 × ST := by
  classical exact if isS σ x1 then ans σ (qkR (sV σ) (nt x1) (nI (stk (sV σ) + wya (sV σ))) 25) 3 else (fnd 0, uF σ 0)
theorem WS_all {x1 : Int32} (hW : WS c σ) (hc : c < 512) : WS (c + 1) (o_all σ x1).2 := by
  refine WS_q hW hc ?_
  unfold o_all
  generalize qkR (sV σ) (nt x1) (nI (stk (sV σ) + wya (sV σ))) 25 = z
  split
  · exact ans_q
  · exact Or.inr ⟨0, rfl⟩
theorem c_all {x1 : Int32} (hW : WS c σ) (hI : CI σ h) (hQ : ∀ h', CI (o_all σ x1).2 h' → LoF h h' → Q (o_all σ x1).1 h') : f_X7_all x1 h Q := by
  unfold f_X7_all
  unfold o_all at hQ
  refine c_hasS hI.1 hW.small.1 (fun p => br1 ?_) (fun p => br0 ?_)
  · rw [if_pos p] at hQ
    have e1 := isS_lt (σ := σ) p
    generalize nt x1 = g at *
    rw [e1.1]
    refine c_allGoods hW.2.1.1 hI.1 ?_
    refine c_ticksUntil hW.2.1.1 hI.1 e1.2 (fun h' f => ?_)
    exact c_ans hW hI f.c hQ
  · rw [if_neg p] at hQ
    exact c_found (by omega) hI hQ fnd0 hW.small
theorem m_all {x1 : Int32} (hW : WS c σ) (hI : MI σ h) (hQ : ∀ h', MI (o_all σ x1).2 h' → HiF h h' → Q (o_all σ x1).1 h') : f_X8_all x1 h Q := by
  unfold f_X8_all
  unfold o_all at hQ
  refine m_isS hI.1 hW.small.1 (fun p => br1 ?_) (fun p => br0 ?_)
  · rw [if_pos p] at hQ
    have e1 := isS_lt (σ := σ) p
    generalize nt x1 = g at *
    rw [e1.1]
    refine m_goods hW.2.1.1 hI.1 ?_
    refine m_quickOf hW.2.1.1 hI.1 e1.2 (fun h' f => ?_)
    exact m_ans hI (f.jm cX_jm) hQ
  · rw [if_neg p] at hQ
    exact m_finds (by omega) hI hQ fnd0
end Ops
