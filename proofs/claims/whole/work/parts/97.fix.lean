/-! the fixpoint -/
section Rx
variable {v : WV} {F : Nat → Nat} {k : Nat} {x : RX}
theorem rlx_hd {i e : Nat} (h : ximp v F x.1 e) : (rlx v F i e x).1 (xh v e) = xnw v x.1 e := by
  unfold rlx
  rw [if_pos h]
  exact if_pos rfl
theorem fx_same (h : ∀ s, (xps v F k (2 * vL v) x).1 s = x.1 s) : Fx v F x := by
  intro e he z
  have ey : (xps v F k e x).1 = x.1 := by
    funext s
    have p1 := (xps_mono (v := v) (F := F) (k := k) (x := x) s 0 e).1
    have p2 := (xps_mono (v := v) (F := F) (k := k) (x := x) s e (2 * vL v - e)).1
    rw [Nat.zero_add] at p1
    rw [show e + (2 * vL v - e) = 2 * vL v by omega, h s] at p2
    exact Nat.le_antisymm p1 p2
  have z' : ximp v F (xps v F k e x).1 e := by rw [ey]; exact z
  have q := (xps_mono (v := v) (F := F) (k := k) (x := x) (xh v e) (e + 1) (2 * vL v - (e + 1))).1
  rw [show e + 1 + (2 * vL v - (e + 1)) = 2 * vL v by omega, h] at q
  have r : (xps v F k (e + 1) x).1 (xh v e) = xnw v (xps v F k e x).1 e := rlx_hd z'
  rw [r, ey] at q
  have := z.2.2
  omega
end Rx
