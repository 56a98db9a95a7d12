/-! six stations: nothing changes after five passes -/
theorem smle1 {f g : Nat → Nat} : ∀ n, (∀ i, i < n → f i ≤ g i) → sm f n ≤ sm g n
  | 0, _ => Nat.le_refl _
  | n + 1, h => by
    rw [sm, sm]
    have := smle1 n (fun i hi => h i (by omega))
    have := h n (by omega)
    omega
theorem smlt1 {f g : Nat → Nat} : ∀ n, (∀ i, i < n → f i ≤ g i) → ∀ t, t < n → f t < g t → sm f n < sm g n
  | 0, _, t, ht, _ => by omega
  | n + 1, h, t, ht, hl => by
    rw [sm, sm]
    have l := h n (by omega)
    by_cases q : t = n
    · have := smle1 n (fun i hi => h i (by omega))
      rw [q] at hl
      omega
    · have := smlt1 n (fun i hi => h i (by omega)) t (by omega) hl
      omega
def xct (t : Nat → Nat) (c : Nat) : Nat := sm (fun s => if c ≤ t s then 1 else 0) 6
theorem xct_lt {t : Nat → Nat} {c s : Nat} (hs : s < 6) (h : t s < c) : xct t c < xct t (t s) := by
  unfold xct
  refine smlt1 6 (fun i _ => ?_) s hs ?_
  · by_cases q : c ≤ t i
    · rw [if_pos q, if_pos (by omega)]; exact Nat.le_refl _
    · rw [if_neg q]; exact Nat.zero_le _
  · rw [if_neg (by omega), if_pos (Nat.le_refl _)]; omega
theorem xct_6 {t : Nat → Nat} {c : Nat} : xct t c ≤ 6 := by
  unfold xct
  have := smle1 (f := fun s => if c ≤ t s then 1 else 0) (g := fun _ => 1) 6 (fun i _ => by split <;> omega)
  have e : sm (fun _ => 1) 6 = 6 := by decide
  omega
