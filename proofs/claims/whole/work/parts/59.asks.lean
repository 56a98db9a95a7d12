/-! what the class asks of its network -/
noncomputable def mosV (v : WV) (R : Nat → Nat → Nat) (g n : Nat) : Nat := own v g n + mxF (tn v R g n)
/-- bits -/
def btF (T : Nat → Bool) : Nat → Int32
  | 0 => 0
  | k + 1 => if T k = true then btF T k ||| (1 <<< (nI k &&& 31)) else btF T k
def bnF (T : Nat → Bool) : Nat → Nat
  | 0 => 0
  | k + 1 => if T k = true then bnF T k + 2 ^ k else bnF T k
theorem bnF_lt (T : Nat → Bool) : ∀ k, bnF T k < 2 ^ k
  | 0 => by simp [bnF]
  | k + 1 => by
    have := bnF_lt T k
    unfold bnF
    rw [Nat.pow_succ]
    split <;> omega
theorem nI_or (a b : Nat) : nI a ||| nI b = nI (a ||| b) := by
  apply Int32.toBitVec_inj.mp
  apply BitVec.eq_of_toNat_eq
  show (BitVec.ofNat 32 a ||| BitVec.ofNat 32 b).toNat = (BitVec.ofNat 32 (a ||| b)).toNat
  rw [BitVec.toNat_or, BitVec.toNat_ofNat, BitVec.toNat_ofNat, BitVec.toNat_ofNat, Nat.or_mod_two_pow]
theorem nI_sh {k : Nat} (hk : k < 31) : (1 : Int32) <<< (nI k &&& 31) = nI (2 ^ k) := by
  have : ∀ k, k < 31 → (1 : Int32) <<< (nI k &&& 31) = nI (2 ^ k) := by decide +kernel
  exact this k hk
theorem btF_bn {T : Nat → Bool} : ∀ {k}, k ≤ 31 → btF T k = nI (bnF T k)
  | 0, _ => rfl
  | k + 1, hk => by
    unfold btF bnF
    rw [btF_bn (k := k) (by omega)]
    split
    · rw [nI_sh (by omega), nI_or]
      congr 1
      have := Nat.two_pow_add_eq_or_of_lt (bnF_lt T k) 1
      rw [Nat.mul_one] at this
      rw [Nat.or_comm, ← this]; omega
    · rfl
theorem btF_congr {T T' : Nat → Bool} : ∀ {k}, (∀ i, i < k → T i = T' i) → btF T k = btF T' k
  | 0, _ => rfl
  | k + 1, h => by
    unfold btF
    rw [h k (by omega), btF_congr (fun i hi => h i (by omega))]
theorem bnF_0 {T : Nat → Bool} : ∀ {k}, bnF T k = 0 ↔ ∀ i, i < k → T i = false
  | 0 => ⟨fun _ i hi => by omega, fun _ => rfl⟩
  | k + 1 => by
    have ih := bnF_0 (T := T) (k := k)
    have := Nat.two_pow_pos k
    constructor
    · intro h i hi
      unfold bnF at h
      split at h
      · omega
      · rename_i z
        by_cases e : i = k
        · rw [e]; simpa using z
        · exact ih.mp h i (by omega)
    · intro h
      unfold bnF
      rw [if_neg (by rw [h k (by omega)]; simp)]
      exact ih.mpr (fun i hi => h i (by omega))
theorem bnF_bit {T : Nat → Bool} {s : Nat} : ∀ {k}, s < k → bnF T k / 2 ^ s % 2 = if T s = true then 1 else 0
  | 0, h => by omega
  | k + 1, h => by
    unfold bnF
    by_cases e : s = k
    · subst e
      have := bnF_lt T s
      have p := Nat.two_pow_pos s
      split
      · rw [Nat.add_div_right _ p, Nat.div_eq_of_lt this]
      · rw [Nat.div_eq_of_lt this]
    · have ih := bnF_bit (T := T) (s := s) (k := k) (by omega)
      have p := Nat.two_pow_pos s
      split
      · rw [← ih]
        have e2 : 2 ^ k = 2 ^ s * (2 * 2 ^ (k - s - 1)) := by
          rw [← Nat.pow_succ', ← Nat.pow_add]
          congr 1
          omega
        rw [e2, Nat.add_mul_div_left _ _ p]
        omega
      · exact ih
theorem bit_test {a s : Nat} (ha : a < 1024) (hs : s < 10) : ((nI a >>> (nI s &&& 31)) &&& 1) = 0 ↔ a / 2 ^ s % 2 = 0 := by
  have : ∀ s, s < 10 → ∀ a, a < 1024 → (((nI a >>> (nI s &&& 31)) &&& 1) = 0 ↔ a / 2 ^ s % 2 = 0) := by decide +kernel
  exact this s hs a ha
theorem bt_test {T : Nat → Bool} {k s : Nat} (hk : k ≤ 10) (hs : s < k) : ((btF T k >>> (nI s &&& 31)) &&& 1) = 0 ↔ T s = false := by
  have h1 := bnF_lt T k
  have h2 : 2 ^ k ≤ 2 ^ 10 := Nat.pow_le_pow_right (by omega) hk
  rw [btF_bn (by omega), bit_test (by omega) (by omega), bnF_bit hs]
  cases T s <;> simp
