/-! the network of a world: goal g, n ticks ahead, rooms R; arcs as the reference's rows have them, nodes as the class's -/
def nd (g s i : Nat) : Nat := if s = g then 150 else 6 * i + s
def cmV (v : WV) (s i : Nat) : Nat := if i = 0 then vs v s 1 else if i < 16 then sm (fun l => if vl v l 2 = s then vy v l ((vT v + i) % 16) else 0) (vL v) else 0
def tnT (v : WV) (g : Nat) (a : Nat) : Nat := if a < 150 then 151 else if a < 300 then nd g ((a - 150) / 25) ((a - 150) % 25) else nd g (vl v ((a - 300) / 25) 1) ((a - 300) % 25)
def tnH (v : WV) (g : Nat) (a : Nat) : Nat := if a < 150 then nd g (a / 25) (a % 25) else if a < 300 then nd g ((a - 150) / 25) ((a - 150) % 25 + 1) else nd g (vl v ((a - 300) / 25) 2) ((a - 300) % 25 + takesL v ((a - 300) / 25))
def tnC (v : WV) (R : Nat → Nat → Nat) (g n a : Nat) : Nat :=
  if a < 150 then (if a / 25 < vS v ∧ a / 25 ≠ g ∧ a % 25 ≤ n then cmV v (a / 25) (a % 25) else 0)
  else if a < 300 then (if (a - 150) / 25 < vS v ∧ (a - 150) / 25 ≠ g ∧ (a - 150) % 25 < n then holdsS v ((a - 150) / 25) (vT v + (a - 150) % 25) else 0)
  else (if (a - 300) / 25 < vL v ∧ vl v ((a - 300) / 25) 1 ≠ g ∧ (a - 300) % 25 + takesL v ((a - 300) / 25) ≤ n then R ((a - 300) / 25) ((a - 300) % 25) else 0)
def tn (v : WV) (R : Nat → Nat → Nat) (g n : Nat) : NW := (550, tnT v g, tnH v g, tnC v R g n)
section TN
variable {v : WV} {R : Nat → Nat → Nat} {g n : Nat}
theorem tn_s {s i : Nat} (hs : s < 6) (hi : i < 25) : nT (tn v R g n) (25 * s + i) = 151 ∧ nH (tn v R g n) (25 * s + i) = nd g s i ∧ nC (tn v R g n) (25 * s + i) = if s < vS v ∧ s ≠ g ∧ i ≤ n then cmV v s i else 0 := by
  have e1 : (25 * s + i) / 25 = s := by omega
  have e2 : (25 * s + i) % 25 = i := by omega
  have e3 : 25 * s + i < 150 := by omega
  refine ⟨?_, ?_, ?_⟩
  · show tnT v g _ = _
    unfold tnT; rw [if_pos e3]
  · show tnH v g _ = _
    unfold tnH; rw [if_pos e3, e1, e2]
  · show tnC v R g n _ = _
    unfold tnC; rw [if_pos e3, e1, e2]
theorem tn_y {s i : Nat} (hs : s < 6) (hi : i < 25) : nT (tn v R g n) (150 + (25 * s + i)) = nd g s i ∧ nH (tn v R g n) (150 + (25 * s + i)) = nd g s (i + 1) ∧ nC (tn v R g n) (150 + (25 * s + i)) = if s < vS v ∧ s ≠ g ∧ i < n then holdsS v s (vT v + i) else 0 := by
  have e0 : 150 + (25 * s + i) - 150 = 25 * s + i := by omega
  have e1 : (25 * s + i) / 25 = s := by omega
  have e2 : (25 * s + i) % 25 = i := by omega
  have e3 : ¬ 150 + (25 * s + i) < 150 := by omega
  have e4 : 150 + (25 * s + i) < 300 := by omega
  refine ⟨?_, ?_, ?_⟩
  · show tnT v g _ = _
    unfold tnT; rw [if_neg e3, if_pos e4, e0, e1, e2]
  · show tnH v g _ = _
    unfold tnH; rw [if_neg e3, if_pos e4, e0, e1, e2]
  · show tnC v R g n _ = _
    unfold tnC; rw [if_neg e3, if_pos e4, e0, e1, e2]
theorem tn_l {l i : Nat} (hi : i < 25) : nT (tn v R g n) (300 + (25 * l + i)) = nd g (vl v l 1) i ∧ nH (tn v R g n) (300 + (25 * l + i)) = nd g (vl v l 2) (i + takesL v l) ∧ nC (tn v R g n) (300 + (25 * l + i)) = if l < vL v ∧ vl v l 1 ≠ g ∧ i + takesL v l ≤ n then R l i else 0 := by
  have e0 : 300 + (25 * l + i) - 300 = 25 * l + i := by omega
  have e1 : (25 * l + i) / 25 = l := by omega
  have e2 : (25 * l + i) % 25 = i := by omega
  have e3 : ¬ 300 + (25 * l + i) < 150 := by omega
  have e4 : ¬ 300 + (25 * l + i) < 300 := by omega
  refine ⟨?_, ?_, ?_⟩
  · show tnT v g _ = _
    unfold tnT; rw [if_neg e3, if_neg e4, e0, e1, e2]
  · show tnH v g _ = _
    unfold tnH; rw [if_neg e3, if_neg e4, e0, e1, e2]
  · show tnC v R g n _ = _
    unfold tnC; rw [if_neg e3, if_neg e4, e0, e1, e2]
/-- every arc is of one of three sorts -/
theorem arc3 {a : Nat} (ha : a < 550) : (∃ s i, s < 6 ∧ i < 25 ∧ a = 25 * s + i) ∨ (∃ s i, s < 6 ∧ i < 25 ∧ a = 150 + (25 * s + i)) ∨ ∃ l i, l < 10 ∧ i < 25 ∧ a = 300 + (25 * l + i) := by
  by_cases h1 : a < 150
  · exact Or.inl ⟨a / 25, a % 25, by omega, by omega, by omega⟩
  · by_cases h2 : a < 300
    · exact Or.inr (Or.inl ⟨(a - 150) / 25, (a - 150) % 25, by omega, by omega, by omega⟩)
    · exact Or.inr (Or.inr ⟨(a - 300) / 25, (a - 300) % 25, by omega, by omega, by omega⟩)
theorem tn_A : nA (tn v R g n) = 550 := rfl
theorem nd_lt {s i : Nat} (hs : s < 6) (hi : i < 25) : nd g s i < 151 := by unfold nd; split <;> omega
theorem takesL_le {m B : Nat} (hF : WF m B v) {l : Nat} (hl : l < vL v) : 1 ≤ takesL v l ∧ takesL v l ≤ 15 := by
  obtain ⟨a0, a1, a2, a3, a4, a5, a6, a7, a8, a9, a10⟩ := hF.2.2.1 l hl
  exact takesV_le a5 a6 a7
theorem tn_B {m B : Nat} (hF : WF m B v) (hn : n ≤ 24) : NB (tn v R g n) 152 := by
  intro a ha hc
  have h6 := hF.1
  rcases arc3 ha with ⟨s, i, hs, hi, rfl⟩ | ⟨s, i, hs, hi, rfl⟩ | ⟨l, i, hl, hi, rfl⟩
  · obtain ⟨e1, e2, e3⟩ := tn_s (v := v) (R := R) (g := g) (n := n) hs hi
    rw [e1, e2]
    have := nd_lt (g := g) hs hi
    omega
  · obtain ⟨e1, e2, e3⟩ := tn_y (v := v) (R := R) (g := g) (n := n) hs hi
    rw [e3] at hc
    rw [e1, e2]
    have hv : s < vS v ∧ s ≠ g ∧ i < n := by
      apply Decidable.byContradiction
      intro q; rw [if_neg q] at hc; omega
    have h1 := nd_lt (g := g) hs hi
    have h2 := nd_lt (g := g) (i := i + 1) hs (by omega)
    omega
  · obtain ⟨e1, e2, e3⟩ := tn_l (v := v) (R := R) (g := g) (n := n) (l := l) hi
    rw [e3] at hc
    rw [e1, e2]
    have hv : l < vL v ∧ vl v l 1 ≠ g ∧ i + takesL v l ≤ n := by
      apply Decidable.byContradiction
      intro q; rw [if_neg q] at hc; omega
    obtain ⟨a0, a1, a2, a3, a4⟩ := hF.2.2.1 l hv.1
    have h1 := nd_lt (g := g) (s := vl v l 1) (i := i) (by omega) hi
    have h2 := nd_lt (g := g) (s := vl v l 2) (i := i + takesL v l) (by omega) (by omega)
    omega
theorem sm_all {f : Nat → Nat} {n k b : Nat} (h : sm f n ≤ b) (hk : k < n) : f k ≤ b := Nat.le_trans (sm_le hk) h
theorem cmV_le {m B : Nat} (hF : WF m B v) {s i : Nat} (hs : s < vS v) : cmV v s i ≤ 4000000 := by
  unfold cmV
  split
  · exact hF.stock hs
  · split
    · have h1 : sm (fun l => if vl v l 2 = s then vy v l ((vT v + i) % 16) else 0) (vL v) ≤ wya v := by
        unfold wya
        have : ∀ n, sm (fun l => if vl v l 2 = s then vy v l ((vT v + i) % 16) else 0) n ≤ sm (fun l => wyl v l) n := by
          intro n
          induction n with
          | zero => exact Nat.le_refl _
          | succ n ih =>
            simp only [sm]
            have h2 : (if vl v n 2 = s then vy v n ((vT v + i) % 16) else 0) ≤ wyl v n := by
              split
              · exact sm_le (f := fun k => vy v n k) (by omega)
              · omega
            omega
        exact this _
      have := hF.2.2.2
      omega
    · omega
/-- updating -/
def upN (f : Nat → Nat) (k x : Nat) : Nat → Nat := fun i => if i = k then x else f i
theorem upN_eq {f : Nat → Nat} {k x : Nat} : upN f k x k = x := if_pos rfl
theorem upN_ne {f : Nat → Nat} {k x i : Nat} (h : i ≠ k) : upN f k x i = f i := if_neg h
theorem sm_up {F G : Nat → Nat} {n k : Nat} (hk : k < n) (h : ∀ i, i < n → i ≠ k → F i = G i) : sm F n + G k = sm G n + F k := by
  induction n with
  | zero => omega
  | succ n ih =>
    simp only [sm]
    by_cases q : k = n
    · subst q
      rw [sm_congr (f := F) (g := G) (fun i hi => h i (by omega) (by omega))]; omega
    · have := ih (by omega) (fun i hi hn => h i (by omega) hn)
      have := h n (by omega) (by omega)
      omega
theorem ex_up {N : NW} {f : Nat → Nat} {a x w : Nat} (ha : a < nA N) : ex N (upN f a x) w = ex N f w + ((x : Int) - (f a : Int)) * dl N a w := by
  unfold ex
  rw [sI_up (G := fun b => (f b : Int) * dl N b w) ha (fun i _ hn => by rw [upN_ne hn]), upN_eq, Int.sub_mul]
end TN
