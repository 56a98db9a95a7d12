/-! nothing changes after five passes -/
section Rx
variable {v : WV} {F : Nat → Nat} {a : Nat} {T : Nat → Prop} {π : Nat → Nat}
theorem xt_6 {m B e : Nat} (hF : WF m B v) (he : e < 2 * vL v) : xt v e < 6 ∧ xh v e < 6 := by
  have q := hF.2.2.1 (e / 2) (by omega)
  have h6 := hF.1.2.1
  unfold xt xh
  split <;> omega
theorem fx_late {m B K : Nat} (hF : WF m B v) (hP : Pot v F a T π) (ha : a < 6) (hx : Fx v F (xrun v F (rx0 a) K)) : ∀ k, k ≤ K → ∀ s, (xrun v F (rx0 a) K).1 s ≠ 1000000 → 2 * vL v * k < (xrun v F (rx0 a) K).2.2 s → xct (xrun v F (rx0 a) K).2.2 ((xrun v F (rx0 a) K).2.2 s) + k + 1 ≤ 6
  | 0, hk, s, hf, ht => by
    have hI := RI.run hF hP K
    have t0 := xct_lt (t := (xrun v F (rx0 a) K).2.2) (c := (xrun v F (rx0 a) K).2.2 s) (s := a) ha (by rw [hI.1.2]; omega)
    have := xct_6 (t := (xrun v F (rx0 a) K).2.2) (c := (xrun v F (rx0 a) K).2.2 a)
    omega
  | k + 1, hk, s, hf, ht => by
    have hI := RI.run hF hP K
    have hs : s ≠ a := fun q => by rw [q, hI.1.2] at ht; omega
    obtain ⟨b1, b2, b3, b4, b5, b6⟩ := hI.2.2 s hs hf
    have fe := fx_eq (m := m) (B := B) hx hI hs hf
    have st : 2 * vL v * k < (xrun v F (rx0 a) K).2.2 (xt v ((xrun v F (rx0 a) K).2.1 s)) := by
      have eK : K = k + 1 + (K - (k + 1)) := by omega
      rw [eK] at hx hf ht ⊢
      exact fx_step hF hP hx hs hf ht
    have ih := fx_late hF hP ha hx k (by omega) _ b4 st
    have t1 := xct_lt (t := (xrun v F (rx0 a) K).2.2) (c := (xrun v F (rx0 a) K).2.2 s) (xt_6 hF b1).1 fe.2
    omega
end Rx
