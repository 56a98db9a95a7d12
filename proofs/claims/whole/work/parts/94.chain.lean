/-! parents of late changes are late -/
section Rx
variable {v : WV} {F : Nat → Nat} {a i e k : Nat} {T : Nat → Prop} {π : Nat → Nat}
def Fx (v : WV) (F : Nat → Nat) (x : RX) : Prop := ∀ e, e < 2 * vL v → ¬ ximp v F x.1 e
theorem fx_eq {m B s : Nat} {x : RX} (hx : Fx v F x) (hI : RI v F a T π i x) (hs : s ≠ a) (hf : x.1 s ≠ 1000000) : xnw v x.1 (x.2.1 s) = x.1 s ∧ x.2.2 (xt v (x.2.1 s)) < x.2.2 s := by
  obtain ⟨b1, b2, b3, b4, b5, b6⟩ := hI.2.2 s hs hf
  have n := hx _ b1
  have : xnw v x.1 (x.2.1 s) = x.1 s := by
    apply Nat.le_antisymm b5
    apply Nat.le_of_not_lt
    intro q
    exact n ⟨b4, b3, by rw [b2]; exact q⟩
  exact ⟨this, b6 this⟩
theorem rlx_le {x : RX} (h1 : x.1 (xt v e) ≠ 1000000) (h2 : xrs v F e) : (rlx v F i e x).1 (xh v e) ≤ xnw v x.1 e := by
  unfold rlx
  by_cases z : ximp v F x.1 e
  · rw [if_pos z]
    show xup x.1 (xh v e) (xnw v x.1 e) (xh v e) ≤ xnw v x.1 e
    unfold xup
    rw [if_pos rfl]
    exact Nat.le_refl _
  · rw [if_neg z]
    apply Nat.le_of_not_lt
    intro q
    exact z ⟨h1, h2, q⟩
theorem fx_step {m B s k d : Nat} (hF : WF m B v) (hP : Pot v F a T π) (hx : Fx v F (xrun v F (rx0 a) (k + 1 + d))) (hs : s ≠ a) (hf : (xrun v F (rx0 a) (k + 1 + d)).1 s ≠ 1000000) (ht : 2 * vL v * (k + 1) < (xrun v F (rx0 a) (k + 1 + d)).2.2 s) : 2 * vL v * k < (xrun v F (rx0 a) (k + 1 + d)).2.2 (xt v ((xrun v F (rx0 a) (k + 1 + d)).2.1 s)) := by
  have hI := RI.run hF hP (k + 1 + d)
  obtain ⟨b1, b2, b3, b4, b5, b6⟩ := hI.2.2 s hs hf
  have eqn := (fx_eq (m := m) (B := B) hx hI hs hf).1
  generalize eX : xrun v F (rx0 a) (k + 1 + d) = X at *
  generalize ee : X.2.1 s = e at *
  apply Nat.lt_of_not_le
  intro hu
  have m1 := xrun_mono (v := v) (F := F) (x0 := rx0 a) (xt v e) k (1 + d)
  rw [show k + (1 + d) = k + 1 + d by omega, eX] at m1
  have eu : X.1 (xt v e) = (xrun v F (rx0 a) k).1 (xt v e) := by
    rcases m1.2 with q | q
    · exact q.2.1
    · omega
  -- within pass k the tail keeps its value
  have p1 := xps_mono (v := v) (F := F) (k := k) (x := xrun v F (rx0 a) k) (xt v e) 0 e
  have p2 := xps_mono (v := v) (F := F) (k := k) (x := xrun v F (rx0 a) k) (xt v e) e (2 * vL v - e)
  rw [Nat.zero_add] at p1
  rw [show e + (2 * vL v - e) = 2 * vL v by omega] at p2
  have p3 := xrun_mono (v := v) (F := F) (x0 := rx0 a) (xt v e) (k + 1) d
  rw [eX] at p3
  have r1 : xrun v F (rx0 a) (k + 1) = xps v F k (2 * vL v) (xrun v F (rx0 a) k) := rfl
  have r0 : xps v F k 0 (xrun v F (rx0 a) k) = xrun v F (rx0 a) k := rfl
  rw [r0] at p1
  rw [← r1] at p2
  have ey : (xps v F k e (xrun v F (rx0 a) k)).1 (xt v e) = X.1 (xt v e) := by
    have := p1.1
    have := p2.1
    have := p3.1
    omega
  have le1 := rlx_le (v := v) (F := F) (i := 2 * vL v * k + e) (e := e) (x := xps v F k e (xrun v F (rx0 a) k)) (by rw [ey]; exact b4) b3
  rw [b2, xnw_c ey, eqn] at le1
  have q1 := xps_mono (v := v) (F := F) (k := k) (x := xrun v F (rx0 a) k) s (e + 1) (2 * vL v - (e + 1))
  rw [show e + 1 + (2 * vL v - (e + 1)) = 2 * vL v by omega, ← r1] at q1
  have r2 : xps v F k (e + 1) (xrun v F (rx0 a) k) = rlx v F (2 * vL v * k + e) e (xps v F k e (xrun v F (rx0 a) k)) := rfl
  rw [r2] at q1
  have q2 := xrun_mono (v := v) (F := F) (x0 := rx0 a) s (k + 1) d
  rw [eX] at q2
  have tk := ((RI.run hF hP (k + 1)).2.1 s).2.1
  rcases q2.2 with q | q
  · rw [q.1] at ht
    omega
  · have := q1.1
    omega
end Rx
