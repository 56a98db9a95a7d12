/-! passes -/
noncomputable def xps (v : WV) (F : Nat → Nat) (k : Nat) : Nat → RX → RX
  | 0, x => x
  | e + 1, x => rlx v F (2 * vL v * k + e) e (xps v F k e x)
noncomputable def xrun (v : WV) (F : Nat → Nat) (x0 : RX) : Nat → RX
  | 0 => x0
  | k + 1 => xps v F k (2 * vL v) (xrun v F x0 k)
def rx0 (a : Nat) : RX := (fun s => if s = a then 0 else 1000000, fun _ => 0, fun _ => 0)
section Rx
variable {v : WV} {F : Nat → Nat} {a i e k : Nat} {T : Nat → Prop} {π : Nat → Nat} {x : RX}
theorem RI.ps {m B : Nat} (hF : WF m B v) (hP : Pot v F a T π) (hI : RI v F a T π (2 * vL v * k) x) : ∀ e, e ≤ 2 * vL v → RI v F a T π (2 * vL v * k + e) (xps v F k e x)
  | 0, _ => hI
  | e + 1, he => (RI.ps hF hP hI e (by omega)).rlx hF hP (by omega)
theorem rx0_RI (hP : Pot v F a T π) : RI v F a T π 0 (rx0 a) := by
  refine ⟨⟨if_pos rfl, rfl⟩, fun s => ⟨?_, Nat.le_refl _, fun q => ?_⟩, fun s hs q => ?_⟩
  · show (if s = a then 0 else 1000000) ≤ 1000000
    split <;> omega
  · by_cases z : s = a
    · rw [z]; exact ⟨hP.1.1, by rw [hP.1.2]; exact Nat.zero_le _⟩
    · exact absurd (if_neg z) q
  · exact absurd (if_neg hs) q
theorem RI.run {m B : Nat} (hF : WF m B v) (hP : Pot v F a T π) : ∀ k, RI v F a T π (2 * vL v * k) (xrun v F (rx0 a) k)
  | 0 => rx0_RI hP
  | k + 1 => by
    have q := RI.ps hF hP (RI.run hF hP k) (2 * vL v) (Nat.le_refl _)
    rw [Nat.mul_succ]
    exact q
/-- a step only lowers, and where it changes it notes the time -/
theorem rlx_mono (s : Nat) : (rlx v F i e x).1 s ≤ x.1 s ∧ ((rlx v F i e x).2.2 s = x.2.2 s ∧ (rlx v F i e x).1 s = x.1 s ∧ (rlx v F i e x).2.1 s = x.2.1 s ∨ (rlx v F i e x).2.2 s = i + 1 ∧ (rlx v F i e x).1 s < x.1 s) := by
  unfold rlx
  by_cases z : ximp v F x.1 e
  · rw [if_pos z]
    by_cases q : s = xh v e
    · have lt : xup x.1 (xh v e) (xnw v x.1 e) s < x.1 s := by
        unfold xup
        rw [if_pos q, q]
        exact z.2.2
      exact ⟨Nat.le_of_lt lt, Or.inr ⟨if_pos q, lt⟩⟩
    · have e2 : xup x.1 (xh v e) (xnw v x.1 e) s = x.1 s := if_neg q
      exact ⟨Nat.le_of_eq e2, Or.inl ⟨if_neg q, e2, if_neg q⟩⟩
  · rw [if_neg z]
    exact ⟨Nat.le_refl _, Or.inl ⟨rfl, rfl, rfl⟩⟩
end Rx
