/-! five passes reach the fixpoint -/
section Rx
variable {v : WV} {F : Nat → Nat} {a : Nat} {T : Nat → Prop} {π : Nat → Nat}
theorem fx_ps {x : RX} (hx : Fx v F x) (k : Nat) : ∀ e, e ≤ 2 * vL v → xps v F k e x = x
  | 0, _ => rfl
  | e + 1, he => by
    show rlx v F (2 * vL v * k + e) e (xps v F k e x) = x
    rw [fx_ps hx k e (by omega)]
    unfold rlx
    exact if_neg (hx e (by omega))
theorem fx_run {x0 : RX} {k : Nat} (hx : Fx v F (xrun v F x0 k)) : ∀ d, xrun v F x0 (k + d) = xrun v F x0 k
  | 0 => rfl
  | d + 1 => by
    show xps v F (k + d) (2 * vL v) (xrun v F x0 (k + d)) = _
    rw [fx_run hx d]
    exact fx_ps hx _ _ (Nat.le_refl _)
theorem xps_hi {m B : Nat} (hF : WF m B v) {x : RX} {k s : Nat} (hs : 6 ≤ s) : ∀ e, e ≤ 2 * vL v → (xps v F k e x).1 s = x.1 s
  | 0, _ => rfl
  | e + 1, he => by
    have ih := xps_hi hF (x := x) (k := k) hs e (by omega)
    have hh := (xt_6 (e := e) hF (by omega)).2
    show (rlx v F (2 * vL v * k + e) e (xps v F k e x)).1 s = x.1 s
    rw [← ih]
    unfold rlx
    by_cases z : ximp v F (xps v F k e x).1 e
    · rw [if_pos z]
      exact if_neg (by omega)
    · rw [if_neg z]
theorem fx_ex {m B : Nat} (hF : WF m B v) {x0 : RX} : ∀ n k, sm (fun s => (xrun v F x0 k).1 s) 6 ≤ n → ∃ d, Fx v F (xrun v F x0 (k + d)) := by
  intro n
  induction n with
  | zero =>
    intro k h
    refine ⟨0, fx_same (k := k) (fun s => ?_)⟩
    by_cases hs : 6 ≤ s
    · exact xps_hi hF hs _ (Nat.le_refl _)
    · have h1 := (xrun_mono (v := v) (F := F) (x0 := x0) s k 1).1
      have h2 := sm_le (f := fun s => (xrun v F x0 k).1 s) (n := 6) (i := s) (by omega)
      have h3 : (xrun v F x0 (k + 1)).1 s = (xps v F k (2 * vL v) (xrun v F x0 k)).1 s := rfl
      have h4 : (xrun v F x0 (k + 0)).1 s = (xrun v F x0 k).1 s := rfl
      show (xps v F k (2 * vL v) (xrun v F x0 k)).1 s = (xrun v F x0 k).1 s
      omega
  | succ n ih =>
    intro k h
    by_cases q : ∀ s, s < 6 → (xrun v F x0 (k + 1)).1 s = (xrun v F x0 k).1 s
    · refine ⟨0, fx_same (k := k) (fun s => ?_)⟩
      by_cases hs : 6 ≤ s
      · exact xps_hi hF hs _ (Nat.le_refl _)
      · exact q s (by omega)
    · obtain ⟨s, hs⟩ := Classical.not_forall.mp q
      obtain ⟨h6, hn⟩ := Classical.not_imp.mp hs
      have lt := smlt1 (f := fun s => (xrun v F x0 (k + 1)).1 s) (g := fun s => (xrun v F x0 k).1 s) 6 (fun i _ => (xrun_mono (v := v) (F := F) (x0 := x0) i k 1).1) s h6 (by
        have := (xrun_mono (v := v) (F := F) (x0 := x0) s k 1).1
        omega)
      obtain ⟨d, hd⟩ := ih (k + 1) (by omega)
      exact ⟨1 + d, by rw [← Nat.add_assoc]; exact hd⟩
theorem fx_5 {m B : Nat} (hF : WF m B v) (hP : Pot v F a T π) (ha : a < 6) : Fx v F (xrun v F (rx0 a) 5) := by
  obtain ⟨d, hd⟩ := fx_ex (F := F) (x0 := rx0 a) hF _ 5 (Nat.le_refl _)
  have key : ∀ s, (xrun v F (rx0 a) (5 + d)).2.2 s = (xrun v F (rx0 a) 5).2.2 s ∧ (xrun v F (rx0 a) (5 + d)).1 s = (xrun v F (rx0 a) 5).1 s ∧ (xrun v F (rx0 a) (5 + d)).2.1 s = (xrun v F (rx0 a) 5).2.1 s := by
    intro s
    rcases (xrun_mono (v := v) (F := F) (x0 := rx0 a) s 5 d).2 with q | q
    · exact q
    · exfalso
      have I5 := RI.run hF hP 5
      have IK := RI.run hF hP (5 + d)
      have b5 := (I5.2.1 s).1
      have hf : (xrun v F (rx0 a) (5 + d)).1 s ≠ 1000000 := by omega
      have hs : s ≠ a := fun z => by rw [z, IK.1.2] at q; omega
      have lt := fx_late hF hP ha hd 5 (by omega) s hf q.1
      obtain ⟨b1, b2, _⟩ := IK.2.2 s hs hf
      have s6 : s < 6 := by
        have := (xt_6 hF b1).2
        omega
      have := sm_le (f := fun t => if (xrun v F (rx0 a) (5 + d)).2.2 s ≤ (xrun v F (rx0 a) (5 + d)).2.2 t then 1 else 0) s6
      simp only [Nat.le_refl, if_true] at this
      unfold xct at lt
      omega
  have e : xrun v F (rx0 a) (5 + d) = xrun v F (rx0 a) 5 := Prod.ext (funext fun s => (key s).2.1) (Prod.ext (funext fun s => (key s).2.2) (funext fun s => (key s).1))
  rw [← e]
  exact hd
/-- the end of the relaxing -/
noncomputable def sxX (v : WV) (F : Nat → Nat) (a : Nat) : RX := xrun v F (rx0 a) 5
theorem sx_fx {m B : Nat} (hF : WF m B v) (hP : Pot v F a T π) (ha : a < 6) : Fx v F (sxX v F a) := fx_5 hF hP ha
theorem sx_of {m B k : Nat} (hF : WF m B v) (hP : Pot v F a T π) (ha : a < 6) (hx : Fx v F (xrun v F (rx0 a) k) ∨ 5 ≤ k) : xrun v F (rx0 a) k = sxX v F a := by
  by_cases h : 5 ≤ k
  · have := fx_run (fx_5 hF hP ha) (k - 5)
    rw [show 5 + (k - 5) = k by omega] at this
    exact this
  · have := fx_run (hx.resolve_right h) (5 - k)
    rw [show k + (5 - k) = 5 by omega] at this
    exact this.symm
/-- how many stations came to rest earlier -/
def sxK (t : Nat → Nat) (s : Nat) : Nat := sm (fun u => if t u < t s then 1 else 0) 6
theorem sxK_lt {t : Nat → Nat} {u s : Nat} (hu : u < 6) (h : t u < t s) : sxK t u < sxK t s := by
  unfold sxK
  refine smlt1 6 (fun i _ => ?_) u hu ?_
  · by_cases q : t i < t u
    · rw [if_pos q, if_pos (by omega)]; exact Nat.le_refl _
    · rw [if_neg q]; exact Nat.zero_le _
  · rw [if_neg (by omega), if_pos h]; omega
theorem sxK_5 {t : Nat → Nat} {s : Nat} (hs : s < 6) : sxK t s ≤ 5 := by
  unfold sxK
  have := smlt1 (f := fun u => if t u < t s then 1 else 0) (g := fun _ => 1) 6 (fun i _ => by split <;> omega) s hs (by rw [if_neg (by omega)]; omega)
  have e : sm (fun _ => 1) 6 = 6 := by decide
  omega
theorem takesL_le2 {m B l : Nat} (hF : WF m B v) (hl : l < vL v) : 1 ≤ takesL v l ∧ takesL v l ≤ 15 := by
  obtain ⟨a0, a1, a2, a3, a4, a5, a6, a7, a8, a9, a10⟩ := hF.2.2.1 l hl
  exact takesV_le a5 a6 a7
theorem sx_D {m B : Nat} (hF : WF m B v) {x : RX} {i : Nat} (hx : Fx v F x) (hI : RI v F a T π i x) : ∀ n s, sxK x.2.2 s ≤ n → x.1 s ≠ 1000000 → x.1 s ≤ 15 * n := by
  intro n
  induction n with
  | zero =>
    intro s hk hf
    by_cases hs : s = a
    · rw [hs, hI.1.1]; omega
    · obtain ⟨b1, b2, b3, b4, b5, b6⟩ := hI.2.2 s hs hf
      have := sxK_lt (xt_6 hF b1).1 (fx_eq (m := m) (B := B) hx hI hs hf).2
      omega
  | succ n ih =>
    intro s hk hf
    by_cases hs : s = a
    · rw [hs, hI.1.1]; omega
    · obtain ⟨b1, b2, b3, b4, b5, b6⟩ := hI.2.2 s hs hf
      have fe := fx_eq (m := m) (B := B) hx hI hs hf
      have := sxK_lt (xt_6 hF b1).1 fe.2
      have h1 := ih _ (by omega) b4
      have h2 := (takesL_le2 (l := x.2.1 s / 2) hF (by omega)).2
      rw [← fe.1]
      unfold xnw
      split <;> omega
theorem sx_D75 {m B : Nat} (hF : WF m B v) (hP : Pot v F a T π) (ha : a < 6) {s : Nat} (hf : (sxX v F a).1 s ≠ 1000000) : (sxX v F a).1 s ≤ 75 ∧ s < 6 := by
  have hI := RI.run hF hP 5
  have s6 : s < 6 := by
    by_cases hs : s = a
    · omega
    · obtain ⟨b1, b2, _⟩ := hI.2.2 s hs hf
      have := (xt_6 hF b1).2
      omega
  exact ⟨sx_D hF (fx_5 hF hP ha) hI 5 s (sxK_5 s6) hf, s6⟩
end Rx
