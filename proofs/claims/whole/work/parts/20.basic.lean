/-! L3: contracts. Numbers first. -/
theorem i32_lt (a b : Int32) : a < b ↔ a.toInt < b.toInt := Int32.lt_iff_toInt_lt
theorem i32_le (a b : Int32) : a ≤ b ↔ a.toInt ≤ b.toInt := Int32.le_iff_toInt_le
theorem i32_eq (a b : Int32) : a = b ↔ a.toInt = b.toInt := Int32.toInt_inj.symm
theorem i64_lt (a b : Int64) : a < b ↔ a.toInt < b.toInt := Int64.lt_iff_toInt_lt
theorem i64_le (a b : Int64) : a ≤ b ↔ a.toInt ≤ b.toInt := Int64.le_iff_toInt_le
theorem i64_eq (a b : Int64) : a = b ↔ a.toInt = b.toInt := Int64.toInt_inj.symm
theorem w_toInt (a : Int32) : a.toInt64.toInt = a.toInt := by simp
theorem cmp_lt (x y : Int64) : lg_cmp x y < 0 ↔ x < y := by
  unfold lg_cmp
  rw [i64_lt, i32_lt]
  by_cases h1 : y < x
  · rw [if_pos h1]
    rw [i64_lt] at h1
    constructor
    · intro h; exact absurd h (by decide +kernel)
    · intro h; omega
  · rw [if_neg h1]
    rw [i64_lt] at h1
    by_cases h2 : x = y
    · rw [if_pos h2]
      rw [i64_eq] at h2
      constructor
      · intro h; exact absurd h (by decide +kernel)
      · intro h; omega
    · rw [if_neg h2]
      rw [i64_eq] at h2
      constructor
      · intro _; omega
      · intro _; decide +kernel
theorem cmp_gt (x y : Int64) : 0 < lg_cmp x y ↔ y < x := by
  unfold lg_cmp
  rw [i64_lt, i32_lt]
  by_cases h1 : y < x
  · rw [if_pos h1]
    rw [i64_lt] at h1
    constructor
    · intro _; omega
    · intro _; decide +kernel
  · rw [if_neg h1]
    rw [i64_lt] at h1
    by_cases h2 : x = y
    · rw [if_pos h2]
      constructor
      · intro h; exact absurd h (by decide +kernel)
      · intro h; omega
    · rw [if_neg h2]
      constructor
      · intro h; exact absurd h (by decide +kernel)
      · intro h; omega
theorem cmp_eq (x y : Int64) : lg_cmp x y = 0 ↔ x = y := by
  unfold lg_cmp
  by_cases h1 : y < x
  · rw [if_pos h1]
    constructor
    · intro h; exact absurd h (by decide +kernel)
    · intro h; rw [h, i64_lt] at h1; omega
  · rw [if_neg h1]
    by_cases h2 : x = y
    · rw [if_pos h2]; simp [h2]
    · rw [if_neg h2]
      constructor
      · intro h; exact absurd h (by decide +kernel)
      · intro h; exact absurd h h2
theorem nlt32 {a b : Int32} : ¬ a < b ↔ b ≤ a := Int32.not_lt
theorem nle32 {a b : Int32} : ¬ a ≤ b ↔ b < a := Int32.not_le
/-- a test answers 1 or 0 -/
def b2 (p : Prop) (d : Decidable p) : Int32 := @ite Int32 p d 1 0
theorem t_isIn {v lo hi : Int32} {h : HP} {Q : Int32 → HP → Prop} (hQ : Q (if lo ≤ v ∧ v ≤ hi then 1 else 0) h) : f_X7_isIn v lo hi h Q := by
  unfold f_X7_isIn
  by_cases h1 : lo ≤ v ∧ v ≤ hi
  · rw [if_pos h1] at hQ
    exact ⟨fun c => absurd c (nlt32.mpr h1.1), fun _ => ⟨fun c => absurd c (nlt32.mpr h1.2), fun _ => hQ⟩⟩
  · rw [if_neg h1] at hQ
    exact ⟨fun _ => hQ, fun c => ⟨fun _ => hQ, fun c2 => absurd ⟨nlt32.mp c, nlt32.mp c2⟩ h1⟩⟩
theorem t_in {v lo hi : Int64} {h : HP} {Q : Int32 → HP → Prop} (hQ : Q (if lo ≤ v ∧ v ≤ hi then 1 else 0) h) : f_X8_in v lo hi h Q := by
  unfold f_X8_in
  simp only [cmp_lt, cmp_gt]
  by_cases h1 : lo ≤ v ∧ v ≤ hi
  · rw [if_pos h1] at hQ
    exact ⟨fun c => absurd c (Int64.not_lt.mpr h1.1), fun _ => ⟨fun c => absurd c (Int64.not_lt.mpr h1.2), fun _ => hQ⟩⟩
  · rw [if_neg h1] at hQ
    exact ⟨fun _ => hQ, fun c => ⟨fun _ => hQ, fun c2 => absurd ⟨Int64.not_lt.mp c, Int64.not_lt.mp c2⟩ h1⟩⟩
theorem w_le (a b : Int32) : a.toInt64 ≤ b.toInt64 ↔ a ≤ b := by rw [i64_le, i32_le, w_toInt, w_toInt]
/-- the findings: which one, by its number -/
abbrev fnd (k : Nat) : Int32 := (-1000000001 : Int32) - nI k
theorem fnd_ix {k : Nat} (hk : k < 8) : (-1000000001 : Int32) - fnd k = nI k := by
  have : ∀ k, k < 8 → (-1000000001 : Int32) - ((-1000000001 : Int32) - nI k) = nI k := by decide +kernel
  exact this k hk
theorem t_found {k : Nat} (hk : k < 8) {h : HP} {Q : Int32 → HP → Prop} (hQ : Q (fnd k) (si h 108 k (gi h 108 k + 1))) : f_X7_found (fnd k) h Q := by
  unfold f_X7_found
  intro x hx
  rw [fnd_ix hk] at hx
  subst hx
  apply t_isIn
  have h1 : (0 : Int32) ≤ nI k ∧ nI k ≤ 7 := by
    have : ∀ k, k < 8 → (0 : Int32) ≤ nI k ∧ nI k ≤ 7 := by decide +kernel
    exact this k hk
  rw [if_pos h1]
  refine ⟨fun c => absurd c (by decide +kernel), fun _ => ⟨vp_in_nI hk (by decide), vp_in_nI hk (by decide), fun h7 e7 => ?_⟩⟩
  subst e7
  rw [show ix (nI k) = k from nI_clamp (by omega)]
  exact hQ
theorem t_finds {k : Nat} (hk : k < 8) {h : HP} {Q : Int32 → HP → Prop} (hQ : Q (fnd k) (si h 118 k (gi h 118 k + 1))) : f_X8_finds (fnd k) h Q := by
  unfold f_X8_finds
  rw [fnd_ix hk]
  refine ⟨vp_in_nI hk (by decide), vp_in_nI hk (by decide), fun h7 e7 => ?_⟩
  subst e7
  rw [show ix (nI k) = k from nI_clamp (by omega)]
  exact hQ
/-! a world, in numbers: tick, lost, stations, lines; of a station (kind, stock, store); of a line (kind, from, to, width, length, tide, later, shift, sent); its goods under way by the rest of the tick by 16 -/
abbrev WV : Type := (Nat × Nat × Nat × Nat) × (Nat → Nat → Nat) × (Nat → Nat → Nat) × (Nat → Nat → Nat)
def vT (v : WV) : Nat := v.1.1
def vLo (v : WV) : Nat := v.1.2.1
def vS (v : WV) : Nat := v.1.2.2.1
def vL (v : WV) : Nat := v.1.2.2.2
def vs (v : WV) (s k : Nat) : Nat := v.2.1 s k
def vl (v : WV) (l k : Nat) : Nat := v.2.2.1 l k
def vy (v : WV) (l k : Nat) : Nat := v.2.2.2 l k
/-- HOLDS of a station of that kind and store in tick t -/
def holdsV (kind store t : Nat) : Nat := if kind = 0 then 99999 else if kind = 1 then store else if kind = 2 then (if t % 2 = 0 then 99999 else store) else if t % 3 = 0 then store + 10 else store
/-- ROOM of a line in tick t, its widths being so much more -/
def roomV (kind width length tide later shift t more : Nat) : Nat :=
  let road := more + (if shift ≤ t then later else width)
  let ferry := if t % 6 < tide then 0 else road
  if kind = 1 then (if t % 2 = 0 then road else 0) else if kind = 2 then ferry else if kind = 3 then (if t % 2 = 0 then road / 2 else 0) else if kind = 4 then 3 * ferry else if kind = 5 then (if 4 < length then 2 * road else road) else road
def takesV (kind length tide : Nat) : Nat := if kind = 1 then (if length < 2 then 1 else length / 2) else if kind = 2 then length + 1 else if kind = 3 then 1 else if kind = 4 then length + 1 + tide else length
