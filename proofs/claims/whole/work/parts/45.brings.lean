/-! the reference's way by way -/
section Br
variable {v : WV} {R : Nat → Nat → Nat} {g n m B : Nat} {f : Nat → Nat} {σ : SB} {h : HP}
theorem val_le (hF : WF m B v) (hn : n ≤ 24) (hfl : Flw (tn v R g n) 151 150 f) : ex (tn v R g n) f 150 ≤ 600000000 := by
  have hN : NB (tn v R g n) 152 := tn_B hF hn
  have h6 := hF.1
  have c1 := cut_le (T := fun w => decide (w = 151)) hN (by omega) (by omega) (by omega) hfl (by simp) (by simp)
  refine Int.le_trans c1 ?_
  unfold cutV
  have c2 : sI (fun a => if a < 150 then (4000000 : Int) else 0) 550 = 600000000 := by decide +kernel
  rw [← c2, tn_A]
  apply sI_le
  intro a ha
  by_cases q : 0 < nC (tn v R g n) a
  · rcases arc3 ha with ⟨s, i, hs, hi, rfl⟩ | ⟨s, i, hs, hi, rfl⟩ | ⟨l, i, hl, hi, rfl⟩
    · obtain ⟨e1, e2, e3⟩ := tn_s (v := v) (R := R) (g := g) (n := n) hs hi
      rw [if_pos (show 25 * s + i < 150 by omega), e3]
      have : (if s < vS v ∧ s ≠ g ∧ i ≤ n then cmV v s i else 0) ≤ 4000000 := by
        split
        · rename_i z; exact cmV_le hF z.1
        · omega
      split <;> omega
    · obtain ⟨e1, e2, e3⟩ := tn_y (v := v) (R := R) (g := g) (n := n) hs hi
      have := nd_lt (g := g) hs hi
      rw [e1, if_neg (by simp; omega)]
      split <;> omega
    · obtain ⟨e1, e2, e3⟩ := tn_l (v := v) (R := R) (g := g) (n := n) (l := l) hi
      rw [e3] at q
      have hv : l < vL v ∧ vl v l 1 ≠ g ∧ i + takesL v l ≤ n := by
        apply Decidable.byContradiction
        intro z; rw [if_neg z] at q; omega
      have := hF.2.2.1 l hv.1
      have := nd_lt (g := g) (s := vl v l 1) (i := i) (by omega) hi
      rw [e1, if_neg (by simp; omega)]
      split <;> omega
  · have : nC (tn v R g n) a = 0 := by omega
    rw [this]
    split <;> split <;> omega
theorem RS.setU {p x : Nat} (hR : RS v R f h) : RS v R (upN f p x) (si h 128 p (nI x)) := by
  sorry
end Br
