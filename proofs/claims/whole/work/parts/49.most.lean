/-! what the reference says can be -/
def rmB (v : WV) (cl wi hl : Int32) (ht l i : Nat) : Nat := if l < vL v then rmR v cl wi hl ht l i else 0
def own (v : WV) (g n : Nat) : Nat := sm (fun i => cmV v g i) (n + 1)
/-- the greatest flow is x -/
def MxV (N : NW) (x : Nat) : Prop := ∃ f T, Mx N 151 150 f T ∧ ex N f 150 = (x : Int)
abbrev cellsX : Nat → Nat → Prop := fun a k => (125 ≤ a ∧ a ≤ 133) ∨ (a = 117 ∧ k = 20)
section Mo
variable {v : WV} {R : Nat → Nat → Nat} {g n m B : Nat} {f : Nat → Nat} {σ : SB} {h : HP} {Q : Int32 → HP → Prop} {cl wi hl : Int32} {ht : Nat}
theorem MxV.uniq {N : NW} {x y : Nat} (hN : NB N 152) (h1 : MxV N x) (h2 : MxV N y) : x = y := by
  obtain ⟨f, T, a, b⟩ := h1
  obtain ⟨f', T', a', b'⟩ := h2
  have := mx_eq hN (by omega) (by omega) (by omega) a a'
  omega
theorem rmB_fB (hF : WF m B v) : fB (rmB v cl wi hl ht) (fun _ => 0) := by
  refine ⟨fun l i => ?_, fun a => Nat.zero_le _⟩
  unfold rmB
  split
  · rename_i z
    have := rmR_le (cl := cl) (wi := wi) (hl := hl) (ht := ht) (i := i) hF z
    omega
  · omega
theorem RS.toB {f : Nat → Nat} (h0 : RS v (rmR v cl wi hl ht) f h) : RS v (rmB v cl wi hl ht) f h := by
  refine ⟨h0.1, fun l hl' i hi => ?_, h0.2.2⟩
  have := h0.2.1 l hl' i hi
  unfold rmB
  rw [if_pos hl']
  exact this
theorem ex_zero {N : NW} {w : Nat} : ex N (fun _ => 0) w = 0 := by
  unfold ex
  apply sI_0
  intro a _
  simp
theorem flw_zero {N : NW} : Flw N 151 150 (fun _ => 0) := ⟨fun _ _ => Nat.zero_le _, fun _ _ _ => ex_zero⟩
theorem m_ownTill (hg : g < vS v) (h6 : vS v ≤ 6) (hn : n ≤ 24) (hR : RS v R f h) (hQ : Q (nI (own v g n)) h) : f_X8_ownTill (nI g) (nI n) h Q := by
  unfold f_X8_ownTill
  refine loop_up (L := fun c i => f_X8_ownTill_L5 (nI g) (nI n) Q c (nI (sm (fun i => cmV v g i) i)) (nI i) h) (n + 1) 0 (by omega) (fun c => ?_) (fun i c _ hi ih => ?_)
  · unfold f_X8_ownTill_L5
    exact br_lt (by omega) (by omega) (fun _ => hQ) (fun z => by omega)
  · unfold f_X8_ownTill_L5
    refine br_lt (by omega) (by omega) (fun z => by omega) (fun _ => ?_)
    rw [lit 25, nI_mul, nI_add, ix_nI (by omega), (hR.2.2 g hg i (by omega)).2.1]
    refine ⟨vp_in_nI (by omega) (by decide), ?_⟩
    intro x ex y ey
    rw [ex, ey, nI_add, nI_1]
    exact ih
theorem own_le (hF : WF m B v) (hg : g < vS v) (hn : n ≤ 24) : own v g n ≤ 100000000 := by
  unfold own
  have := sm_bound (f := fun i => cmV v g i) (n := n + 1) (b := 4000000) (fun i _ => cmV_le hF hg)
  omega
/-- what the reference's search shows at the end -/
def Shw (v : WV) (R : Nat → Nat → Nat) (g n x : Nat) (f : Nat → Nat) (σ : SB) (h : HP) : Prop := Flw (tn v R g n) 151 150 f ∧ fB R f ∧ ex (tn v R g n) f 150 = (x : Int) ∧ RS v R f h ∧ SIv v R g n f σ ∧ SIh v σ h ∧ Done v R g n f σ
theorem Shw.mx {x : Nat} (hF : WF m B v) (hn : n ≤ 24) (hs : Shw v R g n x f σ h) : Mx (tn v R g n) 151 150 f (nrT v σ) := ⟨hs.1, srch_clo hF hn hs.1.1 hs.2.2.2.2.1 hs.2.2.2.2.2.2.1 hs.2.2.2.2.2.2.2, nrT_0⟩
theorem Shw.mxv {x : Nat} (hF : WF m B v) (hn : n ≤ 24) (hs : Shw v R g n x f σ h) : MxV (tn v R g n) x := ⟨f, nrT v σ, hs.mx hF hn, hs.2.2.1⟩
theorem Shw.le {x : Nat} (hF : WF m B v) (hn : n ≤ 24) (hs : Shw v R g n x f σ h) : x ≤ 600000000 := by
  have := val_le hF hn hs.1
  have := hs.2.2.1
  omega
theorem m_mostBy (hF : WF m B v) (hg : g < vS v) (hn : n ≤ 24) (hM : HM v h) (hht : ht < 2 ^ 31)
    (hQ : ∀ x f σ h', Shw v (rmB v cl wi hl ht) g n x f σ h' → FrI cellsX h h' → Q (nI (x + own v g n)) h') : f_X8_mostBy (nI g) (nI n) cl wi hl (nI ht) h Q := by
  have h6 := hF.1
  unfold f_X8_mostBy
  refine m_layOut hF hM hht (fun h1 r1 f1 => ?_)
  refine m_brings (V := 0) hF hg hn flw_zero (rmB_fB hF) (hM.fl f1) r1.toB ex_zero (fun x f' σ' h' a1 a2 a3 a4 a5 a6 a7 a8 => ?_)
  refine m_ownTill hg h6.2.1 hn a4 ?_
  rw [nI_add]
  rw [Nat.zero_add] at a3
  refine hQ x f' σ' h' ⟨a1, a2, a3, a4, a5, a6, a7⟩ ((f1.mono ?_).trans (a8.mono ?_))
  · intro a k; simp only [cellsL, cellsX]; omega
  · intro a k; simp only [cellsG, cellsB, cellsX]; omega
theorem tn_congr {v' : WV} {R' : Nat → Nat → Nat} (hS : vS v = vS v') (hL : vL v = vL v') (hc : ∀ s, s < vS v → ∀ i, i < 25 → cmV v s i = cmV v' s i) (hh : ∀ s, s < vS v → ∀ i, i < 25 → holdsS v s (vT v + i) = holdsS v' s (vT v' + i)) (ht : ∀ l, takesL v l = takesL v' l) (h1 : ∀ l, vl v l 1 = vl v' l 1) (h2 : ∀ l, vl v l 2 = vl v' l 2) (hR : ∀ l, l < vL v → ∀ i, i < 25 → R l i = R' l i) : tn v R g n = tn v' R' g n := by
  unfold tn
  have e1 : tnT v g = tnT v' g := by
    funext a; unfold tnT; rw [h1]
  have e2 : tnH v g = tnH v' g := by
    funext a; unfold tnH; rw [h2, ht]
  have e3 : tnC v R g n = tnC v' R' g n := by
    funext a
    unfold tnC
    rw [← hS, ← hL, ← h1, ← ht]
    split
    · split
      · rename_i z; exact hc _ z.1 _ (by omega)
      · rfl
    · split
      · split
        · rename_i z; exact hh _ z.1 _ (by omega)
        · rfl
      · split
        · rename_i z; exact hR _ z.1 _ (by omega)
        · rfl
  rw [e1, e2, e3]
end Mo
