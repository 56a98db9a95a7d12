/-! what the class puts into its network -/
section Cw
variable {m B w : Nat} {v : WV} {h : HP} {Q : Int32 → HP → Prop}
theorem c_supply (hF : WF m B v) (hC : HC w v h) {s i : Nat} (hs : s < vS v) (hi : i ≤ 24) (hQ : Q (nI (cmV v s i)) h) : f_X6_supply w (nI s) (nI i) h Q := by
  have h6 := hF.1
  unfold f_X6_supply
  refine br_eq (b := 0) (by omega) (by omega) (fun z => ?_) (fun z => ?_)
  · rw [ix_nI (by omega), hC.2.1 s hs 1 (by omega)]
    unfold cmV at hQ
    rw [if_pos z] at hQ
    exact ⟨vp_in_nI (by omega) (by decide), hQ⟩
  · unfold cmV at hQ
    rw [if_neg z] at hQ
    by_cases z2 : i < 16
    · rw [if_pos z2] at hQ
      refine loop_up (L := fun c l => f_X6_supply_L19 w (nI s) (nI i) Q c (nI (sm (fun l => if vl v l 2 = s then vy v l ((vT v + i) % 16) else 0) l)) (nI l) h) (vL v) 0 (by omega) (fun c => ?_) (fun l c _ hl ih => ?_)
      · unfold f_X6_supply_L19
        rw [hC.1.2.2.2]
        exact br_le (by omega) (by omega) (fun _ => hQ) (fun z => by omega)
      · unfold f_X6_supply_L19
        have hll := hF.2.2.1 l hl
        rw [hC.1.2.2.2, ix_nI (by omega), show w + 2 + 7 + 2 * l = w + 9 + 2 * l by omega, hC.2.2.1 l hl 2 (by omega)]
        refine br_le (by omega) (by omega) (fun z => by omega) (fun _ => ?_)
        refine br_le (a := 16) (by omega) (by omega) (fun z => by omega) (fun _ => ⟨vp_in_nI (by omega) (by decide), ?_⟩)
        refine br_eq (by omega) (by omega) (fun z3 => ⟨vp_in_nI (by omega) (by decide), ?_⟩) (fun z3 => ?_)
        · rw [hC.1.1, nI_add, lit 16, nI_rem (by omega) (by omega) (by omega), ix_nI (by omega), show w + 9 + 2 * l + 1 = w + 10 + 2 * l by omega, hC.2.2.2 l hl _ (by omega)]
          refine ⟨vp_in_nI (by omega) (by decide), ?_⟩
          intro x ex y ey
          rw [ex, ey, nI_add, nI_1]
          simp only [sm, if_pos z3] at ih
          exact ih
        · intro y ey
          rw [ey, nI_1]
          simp only [sm, if_neg z3, Nat.add_zero] at ih
          exact ih
    · rw [if_neg z2] at hQ
      refine ⟨1, ?_⟩
      unfold f_X6_supply_L19
      refine ⟨fun _ => hQ, fun _ => ?_⟩
      exact br_le (a := 16) (by omega) (by omega) (fun _ => hQ) (fun z => by omega)
theorem nI_nm1 {l : Nat} (hl : l < 2 ^ 31) : ¬ nI l = (-1 : Int32) := by
  intro q
  have := congrArg Int32.toInt q
  rw [nI_toInt hl, show (-1 : Int32).toInt = -1 by decide +kernel] at this
  omega
theorem c_roomAhead {hl : Int32} {ht l i : Nat} {mo : Int32} (hF : WF m B v) (hC : HC w v h) (hl' : l < vL v) (hi : i ≤ 24) (hht : ht < 2 ^ 31) (hmo : mo = if nI l = hl then nI ht else 2147483647) (hQ : Q (nI (rmR v (-1) (-1) hl ht l i)) h) : f_X6_roomAhead w (nI l) (nI i) mo h Q := by
  have h6 := hF.1
  obtain ⟨a0, a1, a2, a3, a4, a5, a6, a7, a8, a9, a10⟩ := hF.2.2.1 l hl'
  have hm := hF.2.2.2.2.1
  have hro : roomL v l (vT v + i) 0 ≤ 3 * (m + 0) := roomV_le a4 a8
  unfold f_X6_roomAhead
  rw [ix_nI (by omega), show w + 2 + 7 + 2 * l = w + 9 + 2 * l by omega, hC.1.1, nI_add]
  refine ⟨vp_in_nI (by omega) (by decide), ?_⟩
  refine c_room hF hC hl' (by omega) ?_
  intro x4 e4
  have e0 : (if nI l = (-1 : Int32) then 0 else roomL v l (vT v + i) (if nI l = (-1 : Int32) then 1 else 0)) = roomL v l (vT v + i) 0 := by
    rw [if_neg (nI_nm1 (by omega)), if_neg (nI_nm1 (by omega))]
  unfold rmR at hQ
  rw [e0] at hQ
  generalize roomL v l (vT v + i) 0 = r0 at *
  have e4' : x4 = nI (if nI l = hl ∧ ht < r0 then ht else r0) := by
    rw [e4, hmo]
    by_cases z : nI l = hl
    · rw [if_pos z]
      by_cases z2 : ht < r0
      · rw [if_pos (nI_lt z2 (by omega)), if_pos ⟨z, z2⟩]
      · rw [if_neg (nI_nlt (by omega) hht), if_neg (fun q => z2 q.2)]
    · have hnl : ¬ (2147483647 : Int32) < nI r0 := by
        rw [i32_lt, nI_toInt (by omega), show (2147483647 : Int32).toInt = 2147483647 by decide +kernel]
        omega
      rw [if_neg z, if_neg hnl, if_neg (fun q => z q.1)]
  have hr1 : (if nI l = hl ∧ ht < r0 then ht else r0) ≤ 303 := by split <;> omega
  have hQ' : Q (nI (if i = 0 then (if nI l = hl ∧ ht < r0 then ht else r0) - vl v l 8 else (if nI l = hl ∧ ht < r0 then ht else r0))) h := hQ
  clear hQ
  generalize (if nI l = hl ∧ ht < r0 then ht else r0) = r1 at *
  rw [e4', hC.2.2.1 l hl' 8 (by omega)]
  refine br_eq (b := 0) (by omega) (by omega) (fun z => ⟨vp_in_nI (by omega) (by decide), ?_⟩) (fun z => ?_)
  · rw [if_pos z] at hQ'
    by_cases z2 : vl v l 8 ≤ r1
    · rw [nI_sub z2]
      by_cases z3 : r1 - vl v l 8 = 0
      · rw [z3] at hQ' ⊢
        rw [if_neg (by decide +kernel)]; exact hQ'
      · have pz : (0 : Int32) < nI (r1 - vl v l 8) := nI_lt (a := 0) (by omega) (by omega)
        rw [if_pos pz]; exact hQ'
    · rw [if_neg (by rw [i32_lt, nI_subT (by omega) (by omega), i32_0]; omega)]
      rw [show r1 - vl v l 8 = 0 by omega] at hQ'
      exact hQ'
  · rw [if_neg z] at hQ'
    exact hQ'
end Cw
/-- the pairs of arcs as a network of their own -/
def NP (A : Nat) (en lf : Nat → Nat) : NW := (A, fun j => en (2 * j + 1), fun j => en (2 * j), fun j => lf (2 * j) + lf (2 * j + 1))
abbrev fP (lf : Nat → Nat) : Nat → Nat := fun j => lf (2 * j + 1)
/-- pairs are arcs of N, each once -/
def PS (N : NW) (A : Nat) (σ en lf : Nat → Nat) : Prop := (∀ j, j < A → σ j < 550 ∧ en (2 * j) = nH N (σ j) ∧ en (2 * j + 1) = nT N (σ j) ∧ lf (2 * j) + lf (2 * j + 1) = nC N (σ j) ∧ 0 < nC N (σ j)) ∧ ∀ i j, i < j → j < A → σ i ≠ σ j
def PC (N : NW) (A : Nat) (σ : Nat → Nat) (Z : Nat → Prop) : Prop := (∀ a, a < 550 → 0 < nC N a → ¬ Z a → ∃ j, j < A ∧ σ j = a) ∧ ∀ j, j < A → ¬ Z (σ j)
/-- what a tick still has to put -/
def Rst (v : WV) (k s0 l0 a : Nat) : Prop := (∃ s, s0 ≤ s ∧ s < 6 ∧ (a = 25 * s + k ∨ (0 < k ∧ a = 150 + (25 * s + (k - 1))))) ∨ ∃ l, l0 ≤ l ∧ l < vL v ∧ takesL v l ≤ k ∧ a = 300 + (25 * l + (k - takesL v l))
def oww (a : Nat) : Int32 := if a < 300 then -1 else nI ((a - 300) / 25)
/-- the network looks at the world at w, with goal g, a line held -/
def NX (w : Nat) (v : WV) (g : Nat) (hl : Int32) (ht : Nat) (h : HP) : Prop := (gw h 0 = w ∧ (w = 1 ∨ w = 59)) ∧ HC w v h ∧ gi h 88 1 = nI g ∧ gi h 88 2 = hl ∧ gi h 88 3 = nI ht
theorem NX.kd {w : Nat} {v : WV} {g : Nat} {hl : Int32} {ht : Nat} {h : HP} (hx : NX w v g hl ht h) : kd (gw h 0) = 6 := by
  rw [hx.1.1]
  rcases hx.1.2 with e | e <;> rw [e] <;> decide +kernel
theorem NX.frame {P : Nat → Nat → Prop} {w : Nat} {v : WV} {g : Nat} {hl : Int32} {ht : Nat} {h h' : HP} (hx : NX w v g hl ht h) (hS : vS v ≤ 6) (hL : vL v ≤ 10) (hf : FrI P h h') (hd : ∀ a k, P a k → 88 ≤ a ∧ ¬ (a = 88 ∧ 1 ≤ k ∧ k ≤ 3)) : NX w v g hl ht h' := by
  obtain ⟨⟨a1, a2⟩, b, c, d, e⟩ := hx
  refine ⟨⟨by rw [hf.2.2]; exact a1, a2⟩, b.frame hf (fun a k h1 h2 z => ?_) hS hL, ?_, ?_, ?_⟩
  · have := hd a k z; omega
  · rw [hf.1 _ _ (fun z => (hd _ _ z).2 (by omega))]; exact c
  · rw [hf.1 _ _ (fun z => (hd _ _ z).2 (by omega))]; exact d
  · rw [hf.1 _ _ (fun z => (hd _ _ z).2 (by omega))]; exact e
theorem c_node {w : Nat} {v : WV} {g : Nat} {hl : Int32} {ht : Nat} {h : HP} {Q : Int32 → HP → Prop} {s k : Nat} (hx : NX w v g hl ht h) (hg : g < 6) (hs : s < 6) (hQ : Q (nI (nd g s k)) h) : f_X1_node (nI s) (nI k) h Q := by
  unfold f_X1_node
  rw [hx.2.2.1]
  unfold nd at hQ
  by_cases z : s = g
  · rw [if_pos z] at hQ
    rw [if_pos (by rw [z])]
    exact hQ
  · rw [if_neg z] at hQ
    rw [if_neg (fun q => z (nI_inj (by omega) (by omega) q)), lit 6, nI_mul, nI_add, Nat.mul_comm k 6]
    exact hQ
