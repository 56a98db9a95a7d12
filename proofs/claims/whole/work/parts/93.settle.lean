/-! passes settle -/
section Rx
variable {v : WV} {F : Nat → Nat} {a i e k : Nat} {T : Nat → Prop} {π : Nat → Nat} {x : RX}
theorem xps_mono (s : Nat) : ∀ e d, (xps v F k (e + d) x).1 s ≤ (xps v F k e x).1 s ∧ ((xps v F k (e + d) x).2.2 s = (xps v F k e x).2.2 s ∧ (xps v F k (e + d) x).1 s = (xps v F k e x).1 s ∧ (xps v F k (e + d) x).2.1 s = (xps v F k e x).2.1 s ∨ (2 * vL v * k + e < (xps v F k (e + d) x).2.2 s ∧ (xps v F k (e + d) x).2.2 s ≤ 2 * vL v * k + e + d ∧ (xps v F k (e + d) x).1 s < (xps v F k e x).1 s))
  | e, 0 => ⟨Nat.le_refl _, Or.inl ⟨rfl, rfl, rfl⟩⟩
  | e, d + 1 => by
    have ih := xps_mono s e d
    have st := rlx_mono (v := v) (F := F) (i := 2 * vL v * k + (e + d)) (e := e + d) (x := xps v F k (e + d) x) s
    have eq : xps v F k (e + (d + 1)) x = rlx v F (2 * vL v * k + (e + d)) (e + d) (xps v F k (e + d) x) := rfl
    rw [eq]
    refine ⟨Nat.le_trans st.1 ih.1, ?_⟩
    rcases st.2 with ⟨s1, s2, s3⟩ | s1
    · rw [s1, s2, s3]
      rcases ih.2 with q | q
      · exact Or.inl q
      · exact Or.inr ⟨q.1, by omega, q.2.2⟩
    · exact Or.inr ⟨by omega, by omega, Nat.lt_of_lt_of_le s1.2 ih.1⟩
theorem xrun_mono {x0 : RX} (s : Nat) : ∀ k d, (xrun v F x0 (k + d)).1 s ≤ (xrun v F x0 k).1 s ∧ ((xrun v F x0 (k + d)).2.2 s = (xrun v F x0 k).2.2 s ∧ (xrun v F x0 (k + d)).1 s = (xrun v F x0 k).1 s ∧ (xrun v F x0 (k + d)).2.1 s = (xrun v F x0 k).2.1 s ∨ 2 * vL v * k < (xrun v F x0 (k + d)).2.2 s ∧ (xrun v F x0 (k + d)).1 s < (xrun v F x0 k).1 s)
  | k, 0 => ⟨Nat.le_refl _, Or.inl ⟨rfl, rfl, rfl⟩⟩
  | k, d + 1 => by
    have ih := xrun_mono (x0 := x0) s k d
    have st := xps_mono (v := v) (F := F) (k := k + d) (x := xrun v F x0 (k + d)) s 0 (2 * vL v)
    have eq : xrun v F x0 (k + (d + 1)) = xps v F (k + d) (0 + 2 * vL v) (xrun v F x0 (k + d)) := by rw [Nat.zero_add]; rfl
    have e0 : xps v F (k + d) 0 (xrun v F x0 (k + d)) = xrun v F x0 (k + d) := rfl
    rw [e0] at st
    rw [eq]
    refine ⟨Nat.le_trans st.1 ih.1, ?_⟩
    rcases st.2 with ⟨s1, s2, s3⟩ | s1
    · rw [s1, s2, s3]
      exact ih.2
    · have : 2 * vL v * k ≤ 2 * vL v * (k + d) := Nat.mul_le_mul_left _ (by omega)
      exact Or.inr ⟨by omega, Nat.lt_of_lt_of_le s1.2.2 ih.1⟩
end Rx
