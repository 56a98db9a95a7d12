/-! the constructor of the reference: rows, words, rows -/
def wHh (h : HP) (k : Nat) : HP := (fun x j => if x = 139 ∧ j < k then wd8 j else h.1 x j, h.2.1, h.2.2)
theorem gi_wH {h : HP} {k x j : Nat} : gi (wHh h k) x j = if x = 139 ∧ j < k then wd8 j else gi h x j := rfl
theorem wH_0 {h : HP} : wHh h 0 = h := by
  have : (fun x j => if x = 139 ∧ j < 0 then wd8 j else h.1 x j) = h.1 := by
    funext x j
    exact if_neg (by omega)
  unfold wHh
  rw [this]
theorem wH_1 {h : HP} {k : Nat} : si (wHh h k) 139 k (wd8 k) = wHh h (k + 1) := by
  have : (fun x j => if x = 139 ∧ j = k then wd8 k else if x = 139 ∧ j < k then wd8 j else h.1 x j) = (fun x j => if x = 139 ∧ j < k + 1 then wd8 j else h.1 x j) := by
    funext x j
    by_cases z : x = 139
    · by_cases z2 : j = k
      · rw [if_pos ⟨z, z2⟩, if_pos ⟨z, by omega⟩, z2]
      · rw [if_neg (fun w => z2 w.2)]
        by_cases z3 : j < k
        · rw [if_pos ⟨z, z3⟩, if_pos ⟨z, by omega⟩]
        · rw [if_neg (fun w => z3 w.2), if_neg (fun w => by omega)]
    · rw [if_neg (fun w => z w.1), if_neg (fun w => z w.1), if_neg (fun w => z w.1)]
  unfold wHh si
  rw [this]
/-- where the store of word char k begins -/
def pcW (k : Nat) : Nat := if k ≤ 6 then 187 + 5 * k else 217 + 6 * (k - 6)
def wdI (k : Nat) : Int := (wd8 k).toInt
abbrev DWk (k : Nat) : Prop := decode cX8_init (pcW k) = .ok (.dup, 1) ∧ (if k < 6 then decode cX8_init (pcW k + 1) = .ok (.iconst (k : Int), 1) else decode cX8_init (pcW k + 1) = .ok (.bipush (k : Int), 2)) ∧ decode cX8_init (pcW (k + 1) - 3) = .ok (.bipush (wdI k), 2) ∧ decode cX8_init (pcW (k + 1) - 1) = .ok (.castore, 1) ∧ (Int8.ofInt (wdI k)).toInt32 = wd8 k ∧ vp_nar .char (wd8 k) = wd8 k ∧ Int32.ofInt (k : Int) = nI k ∧ (Int8.ofInt (k : Int)).toInt32 = nI k

theorem dW_0 : ∀ i, i < 4 → DWk (4 * 0 + i) := by decide +kernel
theorem dW_1 : ∀ i, i < 4 → DWk (4 * 1 + i) := by decide +kernel
theorem dW_2 : ∀ i, i < 4 → DWk (4 * 2 + i) := by decide +kernel
theorem dW_3 : ∀ i, i < 4 → DWk (4 * 3 + i) := by decide +kernel
theorem dW_4 : ∀ i, i < 4 → DWk (4 * 4 + i) := by decide +kernel
theorem dW_5 : ∀ i, i < 4 → DWk (4 * 5 + i) := by decide +kernel
theorem dW_6 : ∀ i, i < 4 → DWk (4 * 6 + i) := by decide +kernel
theorem dW_7 : ∀ i, i < 4 → DWk (4 * 7 + i) := by decide +kernel
theorem dW_8 : ∀ i, i < 4 → DWk (4 * 8 + i) := by decide +kernel
theorem dW_9 : ∀ i, i < 4 → DWk (4 * 9 + i) := by decide +kernel
theorem dW_10 : ∀ i, i < 4 → DWk (4 * 10 + i) := by decide +kernel
theorem dW_11 : ∀ i, i < 4 → DWk (4 * 11 + i) := by decide +kernel
theorem dW_12 : ∀ i, i < 4 → DWk (4 * 12 + i) := by decide +kernel
theorem dW_13 : ∀ i, i < 4 → DWk (4 * 13 + i) := by decide +kernel
theorem dW_14 : ∀ i, i < 4 → DWk (4 * 14 + i) := by decide +kernel
theorem dW_15 : ∀ i, i < 4 → DWk (4 * 15 + i) := by decide +kernel
theorem dW_16 : ∀ i, i < 4 → DWk (4 * 16 + i) := by decide +kernel
theorem dW_17 : ∀ i, i < 4 → DWk (4 * 17 + i) := by decide +kernel
theorem dW_18 : ∀ i, i < 4 → DWk (4 * 18 + i) := by decide +kernel
theorem dW_19 : ∀ i, i < 4 → DWk (4 * 19 + i) := by decide +kernel
theorem dW_20 : ∀ i, i < 4 → DWk (4 * 20 + i) := by decide +kernel
theorem dW_21 : ∀ i, i < 4 → DWk (4 * 21 + i) := by decide +kernel
theorem dW_22 : ∀ i, i < 4 → DWk (4 * 22 + i) := by decide +kernel
theorem dW_23 : ∀ i, i < 4 → DWk (4 * 23 + i) := by decide +kernel
theorem dW_24 : ∀ i, i < 4 → DWk (4 * 24 + i) := by decide +kernel
theorem dW_25 : ∀ i, i < 4 → DWk (4 * 25 + i) := by decide +kernel
theorem dW_26 : ∀ i, i < 4 → DWk (4 * 26 + i) := by decide +kernel
theorem dW_27 : ∀ i, i < 4 → DWk (4 * 27 + i) := by decide +kernel
theorem dW_28 : ∀ i, i < 4 → DWk (4 * 28 + i) := by decide +kernel
theorem dW_29 : ∀ i, i < 4 → DWk (4 * 29 + i) := by decide +kernel
theorem dW_30 : ∀ i, i < 4 → DWk (4 * 30 + i) := by decide +kernel
theorem dW_31 : ∀ i, i < 4 → DWk (4 * 31 + i) := by decide +kernel
theorem dec_W {k : Nat} (hk : k < 128) : DWk k := by
  have key : ∀ c i, c < 32 → i < 4 → DWk (4 * c + i) := fun c i hc hi => match c, hc with
    | 0, _ => dW_0 i hi
    | 1, _ => dW_1 i hi
    | 2, _ => dW_2 i hi
    | 3, _ => dW_3 i hi
    | 4, _ => dW_4 i hi
    | 5, _ => dW_5 i hi
    | 6, _ => dW_6 i hi
    | 7, _ => dW_7 i hi
    | 8, _ => dW_8 i hi
    | 9, _ => dW_9 i hi
    | 10, _ => dW_10 i hi
    | 11, _ => dW_11 i hi
    | 12, _ => dW_12 i hi
    | 13, _ => dW_13 i hi
    | 14, _ => dW_14 i hi
    | 15, _ => dW_15 i hi
    | 16, _ => dW_16 i hi
    | 17, _ => dW_17 i hi
    | 18, _ => dW_18 i hi
    | 19, _ => dW_19 i hi
    | 20, _ => dW_20 i hi
    | 21, _ => dW_21 i hi
    | 22, _ => dW_22 i hi
    | 23, _ => dW_23 i hi
    | 24, _ => dW_24 i hi
    | 25, _ => dW_25 i hi
    | 26, _ => dW_26 i hi
    | 27, _ => dW_27 i hi
    | 28, _ => dW_28 i hi
    | 29, _ => dW_29 i hi
    | 30, _ => dW_30 i hi
    | 31, _ => dW_31 i hi
    | c + 32, hc => absurd hc (by omega)
  have := key (k / 4) (k % 4) (by omega) (by omega)
  rw [show 4 * (k / 4) + k % 4 = k by omega] at this
  exact this
