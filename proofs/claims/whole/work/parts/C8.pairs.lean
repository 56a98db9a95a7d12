/-! the texts are apart: words of the premises, by their places -/
abbrev fl1 : List Cond := flatC (Jvm.Cond.and given_1 narrow_1)
def tmS (i : Nat) : Term := .string RX5 (nmS.getD i (0, "")).1
def ixN_0 : List Nat := [0, 68, 77, 88, 99, 111, 125, 142, 158, 174, 192, 211, 230, 250, 271, 294]
theorem ne_0 : ∀ j, j < 16 → 0 < j → fl1[ixN_0.getD j 0]? = some (Cond.not (Cond.eq (tmS 0) (tmS j))) := by decide +kernel
def ixN_1 : List Nat := [0, 0, 78, 89, 100, 112, 126, 143, 159, 175, 193, 212, 231, 251, 272, 295]
theorem ne_1 : ∀ j, j < 16 → 1 < j → fl1[ixN_1.getD j 0]? = some (Cond.not (Cond.eq (tmS 1) (tmS j))) := by decide +kernel
def ixN_2 : List Nat := [0, 0, 0, 90, 101, 113, 127, 144, 160, 176, 194, 213, 232, 252, 273, 296]
theorem ne_2 : ∀ j, j < 16 → 2 < j → fl1[ixN_2.getD j 0]? = some (Cond.not (Cond.eq (tmS 2) (tmS j))) := by decide +kernel
def ixN_3 : List Nat := [0, 0, 0, 0, 102, 114, 128, 145, 161, 177, 195, 214, 233, 253, 274, 297]
theorem ne_3 : ∀ j, j < 16 → 3 < j → fl1[ixN_3.getD j 0]? = some (Cond.not (Cond.eq (tmS 3) (tmS j))) := by decide +kernel
def ixN_4 : List Nat := [0, 0, 0, 0, 0, 115, 129, 146, 162, 178, 196, 215, 234, 254, 275, 298]
theorem ne_4 : ∀ j, j < 16 → 4 < j → fl1[ixN_4.getD j 0]? = some (Cond.not (Cond.eq (tmS 4) (tmS j))) := by decide +kernel
def ixN_5 : List Nat := [0, 0, 0, 0, 0, 0, 130, 147, 163, 179, 197, 216, 235, 255, 276, 299]
theorem ne_5 : ∀ j, j < 16 → 5 < j → fl1[ixN_5.getD j 0]? = some (Cond.not (Cond.eq (tmS 5) (tmS j))) := by decide +kernel
def ixN_6 : List Nat := [0, 0, 0, 0, 0, 0, 0, 148, 164, 180, 198, 217, 236, 256, 277, 300]
theorem ne_6 : ∀ j, j < 16 → 6 < j → fl1[ixN_6.getD j 0]? = some (Cond.not (Cond.eq (tmS 6) (tmS j))) := by decide +kernel
def ixN_7 : List Nat := [0, 0, 0, 0, 0, 0, 0, 0, 165, 181, 199, 218, 237, 257, 278, 301]
theorem ne_7 : ∀ j, j < 16 → 7 < j → fl1[ixN_7.getD j 0]? = some (Cond.not (Cond.eq (tmS 7) (tmS j))) := by decide +kernel
def ixN_8 : List Nat := [0, 0, 0, 0, 0, 0, 0, 0, 0, 182, 200, 219, 238, 258, 279, 302]
theorem ne_8 : ∀ j, j < 16 → 8 < j → fl1[ixN_8.getD j 0]? = some (Cond.not (Cond.eq (tmS 8) (tmS j))) := by decide +kernel
def ixN_9 : List Nat := [0, 0, 0, 0, 0, 0, 0, 0, 0, 0, 201, 220, 239, 259, 280, 303]
theorem ne_9 : ∀ j, j < 16 → 9 < j → fl1[ixN_9.getD j 0]? = some (Cond.not (Cond.eq (tmS 9) (tmS j))) := by decide +kernel
def ixN_10 : List Nat := [0, 0, 0, 0, 0, 0, 0, 0, 0, 0, 0, 221, 240, 260, 281, 304]
theorem ne_10 : ∀ j, j < 16 → 10 < j → fl1[ixN_10.getD j 0]? = some (Cond.not (Cond.eq (tmS 10) (tmS j))) := by decide +kernel
def ixN_11 : List Nat := [0, 0, 0, 0, 0, 0, 0, 0, 0, 0, 0, 0, 241, 261, 282, 305]
theorem ne_11 : ∀ j, j < 16 → 11 < j → fl1[ixN_11.getD j 0]? = some (Cond.not (Cond.eq (tmS 11) (tmS j))) := by decide +kernel
def ixN_12 : List Nat := [0, 0, 0, 0, 0, 0, 0, 0, 0, 0, 0, 0, 0, 262, 283, 306]
theorem ne_12 : ∀ j, j < 16 → 12 < j → fl1[ixN_12.getD j 0]? = some (Cond.not (Cond.eq (tmS 12) (tmS j))) := by decide +kernel
def ixN_13 : List Nat := [0, 0, 0, 0, 0, 0, 0, 0, 0, 0, 0, 0, 0, 0, 284, 307]
theorem ne_13 : ∀ j, j < 16 → 13 < j → fl1[ixN_13.getD j 0]? = some (Cond.not (Cond.eq (tmS 13) (tmS j))) := by decide +kernel
def ixN_14 : List Nat := [0, 0, 0, 0, 0, 0, 0, 0, 0, 0, 0, 0, 0, 0, 0, 308]
theorem ne_14 : ∀ j, j < 16 → 14 < j → fl1[ixN_14.getD j 0]? = some (Cond.not (Cond.eq (tmS 14) (tmS j))) := by decide +kernel
theorem ne_lt : ∀ i j, j < 16 → i < j → Cond.not (Cond.eq (tmS i) (tmS j)) ∈ fl1
  | 0, j, hj, h => List.mem_of_getElem? (ne_0 j hj h)
  | 1, j, hj, h => List.mem_of_getElem? (ne_1 j hj h)
  | 2, j, hj, h => List.mem_of_getElem? (ne_2 j hj h)
  | 3, j, hj, h => List.mem_of_getElem? (ne_3 j hj h)
  | 4, j, hj, h => List.mem_of_getElem? (ne_4 j hj h)
  | 5, j, hj, h => List.mem_of_getElem? (ne_5 j hj h)
  | 6, j, hj, h => List.mem_of_getElem? (ne_6 j hj h)
  | 7, j, hj, h => List.mem_of_getElem? (ne_7 j hj h)
  | 8, j, hj, h => List.mem_of_getElem? (ne_8 j hj h)
  | 9, j, hj, h => List.mem_of_getElem? (ne_9 j hj h)
  | 10, j, hj, h => List.mem_of_getElem? (ne_10 j hj h)
  | 11, j, hj, h => List.mem_of_getElem? (ne_11 j hj h)
  | 12, j, hj, h => List.mem_of_getElem? (ne_12 j hj h)
  | 13, j, hj, h => List.mem_of_getElem? (ne_13 j hj h)
  | 14, j, hj, h => List.mem_of_getElem? (ne_14 j hj h)
  | i + 15, j, hj, h => absurd hj (by omega)
theorem st_ne : ∀ i, i < 16 → ∀ j, j < 16 → i ≠ j → Cond.not (Cond.eq (tmS i) (tmS j)) ∈ fl1 ∨ Cond.not (Cond.eq (tmS j) (tmS i)) ∈ fl1 := fun i hi j hj h => by
  by_cases z : i < j
  · exact Or.inl (ne_lt i j hj z)
  · exact Or.inr (ne_lt j i hi (by omega))
